/-! THE SMALL MACHINE: numbers with tags, cells with kinds, what an instruction does to them -/
/-- a value: tag (0 int, 1 long, 2 reference, 3 text, 4 the script, 5 a text's bytes, 6 what nobody reads, 9 none) and number; a reference below 0 is null -/
abbrev pm_V : Type := Nat × Int
/-- the cells' kinds (0 to 12 objects by their number, 13 byte, 14 int, 15 long, 16 boolean, 17 int rows, 18 what nobody reads) and lengths -/
abbrev pm_S : Type := List (Nat × Nat)
/-- what the cells hold -/
abbrev pm_M : Type := Nat → Nat → Int
def w32 (x : Int) : Int := (x + 2147483648) % 4294967296 - 2147483648
def w64 (x : Int) : Int := (x + 9223372036854775808) % 18446744073709551616 - 9223372036854775808
def w8 (x : Int) : Int := (x + 128) % 256 - 128
def pm_up (M : pm_M) (a i : Nat) (v : Int) : pm_M := fun b j => if b = a ∧ j = i then v else M b j
/-- a new cell -/
def pm_nw (M : pm_M) (a : Nat) (f : Nat → Int) : pm_M := fun b j => if b = a then f j else M b j
def pm_iand (a b : Int) : Int := (Int32.ofInt a &&& Int32.ofInt b).toInt
def pm_ior (a b : Int) : Int := (Int32.ofInt a ||| Int32.ofInt b).toInt
def pm_ixor (a b : Int) : Int := (Int32.ofInt a ^^^ Int32.ofInt b).toInt
def pm_ishl (a b : Int) : Int := (Int32.ofInt a <<< (Int32.ofInt b &&& 31)).toInt
def pm_ishr (a b : Int) : Int := (Int32.ofInt a >>> (Int32.ofInt b &&& 31)).toInt
def pm_iushr (a b : Int) : Int := ((Int32.ofInt a).toUInt32 >>> ((Int32.ofInt b).toUInt32 &&& Int32.toUInt32 31)).toInt32.toInt
def pm_land (a b : Int) : Int := (Int64.ofInt a &&& Int64.ofInt b).toInt
def pm_lor (a b : Int) : Int := (Int64.ofInt a ||| Int64.ofInt b).toInt
def pm_lshl (a b : Int) : Int := (Int64.ofInt a <<< ((Int32.ofInt b).toInt64 &&& 63)).toInt
def pm_lshr (a b : Int) : Int := (Int64.ofInt a >>> ((Int32.ofInt b).toInt64 &&& 63)).toInt
def pm_lcmp (a b : Int) : Int := if b < a then 1 else if a = b then 0 else -1
def pm_cnd (k : Jvm.ClassFile.Cond) (a b : Int) : Bool := match k with
  | .eq => decide (a = b)
  | .ne => decide (a ≠ b)
  | .lt => decide (a < b)
  | .ge => decide (b ≤ a)
  | .gt => decide (b < a)
  | .le => decide (a ≤ b)
/-- the texts, as numbers -/
def pm_txt : Nat → List Int := fun k => match k with
  | 0 => [43, 45, 42, 47, 37]
  | 1 => [61, 40, 41, 123, 125, 59]
  | 2 => [120, 121, 122, 97, 98, 99, 100, 101, 102]
  | 3 => [105, 102]
  | 4 => [119, 104, 105, 108, 101]
  | 5 => [114, 101, 116, 117, 114, 110]
  | 6 => [101, 108, 115, 101]
  | 7 => [116, 101, 115, 116]
  | 8 => [103, 105, 118, 101, 115]
  | 9 => [104, 101, 108, 100]
  | _ => []
def pm_idx (c : Int) : List Int → Int → Int
  | [], _ => -1
  | x :: t, k => if x = c then k else pm_idx c t (k + 1)
/-- the tag of an array's places; of a field -/
def pm_kt (c : Nat) : Nat := if c = 15 then 1 else if 17 ≤ c then 2 else 0
def pm_ft (c j : Nat) : Nat := if pm_fk c j = 5 then 0 else pm_fk c j
def pm_tg (c j : Nat) : Nat := if c < 13 then pm_ft c j else pm_kt c
def pm_sz : pm_S → Nat
  | [] => 0
  | q :: t => q.2 + pm_sz t
/-- a step: on; a call (method, arguments, what lies below, where a guarded call's answer goes); the end -/
abbrev pm_St : Type := (Nat × List pm_V × List pm_V × pm_S × pm_M) ⊕ ((pm_Me × List pm_V × List pm_V × Option Nat) ⊕ Option pm_V)
def pm_nx (pc : Nat) (ls st : List pm_V) (S : pm_S) (M : pm_M) : Option pm_St := some (.inl (pc, ls, st, S, M))
/-- storing a value of one place; of two -/
def pm_st1 (ls : List pm_V) (i : Nat) (v : pm_V) : List pm_V := (if i ≠ 0 ∧ (ls[i - 1]?).map Prod.fst = some 1 then ls.set (i - 1) (9, 0) else ls).set i v
def pm_st2 (ls : List pm_V) (i : Nat) (v : pm_V) : List pm_V := (pm_st1 ls i v).set (i + 1) (9, 0)
def pm_bin (len : Nat) (st : List pm_V) (f : Int → Int → Int) (k : List pm_V → Option pm_St) : Option pm_St := match st with
  | (0, b) :: (0, a) :: t => if len = 1 then k ((0, f a b) :: t) else none
  | _ => none
def pm_una (len : Nat) (st : List pm_V) (f : Int → Int) (k : List pm_V → Option pm_St) : Option pm_St := match st with
  | (0, a) :: t => if len = 1 then k ((0, f a) :: t) else none
  | _ => none
def pm_biL (len : Nat) (st : List pm_V) (f : Int → Int → Int) (k : List pm_V → Option pm_St) : Option pm_St := match st with
  | (1, b) :: (1, a) :: t => if len = 1 then k ((1, f a b) :: t) else none
  | _ => none
def pm_shL (len : Nat) (st : List pm_V) (f : Int → Int → Int) (k : List pm_V → Option pm_St) : Option pm_St := match st with
  | (0, b) :: (1, a) :: t => if len = 1 then k ((1, f a b) :: t) else none
  | _ => none
def pm_jmp (pc : Nat) (off : Int) (k : Nat → Option pm_St) : Option pm_St := if 0 ≤ (pc : Int) + off then k ((pc : Int) + off).toNat else none
def pm_ld (ls : List pm_V) (i : Nat) (ok : pm_V → Bool) (k : pm_V → Option pm_St) : Option pm_St := match ls[i]? with
  | some v => if ok v = true then k v else none
  | none => none
def pm_isI (v : pm_V) : Bool := v.1 == 0
def pm_isL (v : pm_V) : Bool := v.1 == 1
def pm_isA (v : pm_V) : Bool := (v.1 == 2 && decide (0 ≤ v.2)) || v.1 == 3 || v.1 == 4 || v.1 == 5
def pm_sto (ls st : List pm_V) (i : Nat) (ok : pm_V → Bool) (k : pm_V → List pm_V → Option pm_St) : Option pm_St := match st with
  | v :: t => if ok v = true ∧ i < ls.length then k v t else none
  | [] => none
/-- an array's place -/
def pm_arr (S : pm_S) (a i : Int) (ok : Nat → Bool) (k : Nat → Option pm_St) : Option pm_St :=
  if 0 ≤ a ∧ 0 ≤ i then
    match S[a.toNat]? with
    | some (c, n) => if ok c = true ∧ i.toNat < n then k c else none
    | none => none
  else none
def pm_okF (c j : Nat) (v : pm_V) : Bool := v.1 == pm_ft c j && (pm_fk c j != 5 || v.2 == 0 || v.2 == 1)
def pm_dfl (c j : Nat) : Int := if pm_fk c j = 2 then -1 else 0
/-- a call: its arguments come off the stack -/
def pm_inv (how : Nat → Bool) (me' : pm_Me) (st : List pm_V) (S : pm_S) (pc : Nat) (ls : List pm_V) (M : pm_M) : Option pm_St :=
  if how me'.2.2.2.2.2.2 = true then
    match me'.2.2.2.2.2.2 with
    | 0 => if me'.2.2.2.2.2.1 ≤ st.length ∧ (st.drop me'.2.2.2.2.2.1).length ≤ 4 then some (.inr (.inl (me', (st.take me'.2.2.2.2.2.1).reverse, st.drop me'.2.2.2.2.2.1, none))) else none
    | 3 => match st with
      | (2, a) :: t => if 0 ≤ a ∧ t.length ≤ 4 then pm_nx (pc + 3) ls t S M else none
      | _ => none
    | 7 => match st with
      | (0, n) :: (0, dp) :: (2, b) :: (0, sp) :: (2, a) :: t =>
        if 0 ≤ a ∧ 0 ≤ b ∧ 0 ≤ n ∧ 0 ≤ dp ∧ 0 ≤ sp ∧ t.length ≤ 4 then
          match S[a.toNat]?, S[b.toNat]? with
          | some (14, la), some (14, lb) => if sp + n ≤ (la : Int) ∧ dp + n ≤ (lb : Int) then pm_nx (pc + 3) ls t S (pm_nw M b.toNat (fun j => if dp.toNat ≤ j ∧ j < dp.toNat + n.toNat then M a.toNat (sp.toNat + (j - dp.toNat)) else M b.toNat j)) else none
          | _, _ => none
        else none
      | _ => none
    | 13 => match st with
      | (0, b) :: (0, a) :: t => if t.length ≤ 4 then pm_nx (pc + 3) ls ((0, if a < b then b else a) :: t) S M else none
      | _ => none
    | 14 => match st with
      | (0, b) :: (0, a) :: t => if t.length ≤ 4 then pm_nx (pc + 3) ls ((0, if b < a then b else a) :: t) S M else none
      | _ => none
    | 15 => match st with
      | (0, a) :: t => if t.length ≤ 4 then pm_nx (pc + 3) ls ((0, if 0 ≤ a then a else w32 (0 - a)) :: t) S M else none
      | _ => none
    | 8 => match st with
      | (2, o) :: (0, q) :: (0, p) :: (2, x) :: t => if 0 ≤ o ∧ 0 ≤ x ∧ (S[o.toNat]?) = some (15, 1) ∧ (S[x.toNat]?).map Prod.fst = some 11 ∧ t.length ≤ 4 then some (.inr (.inl (mX11_node, [(2, x), (0, p), (0, q)], t, some o.toNat))) else none
      | _ => none
    | 9 => match st with
      | (2, o) :: (0, q) :: (0, p) :: (2, x) :: t => if 0 ≤ o ∧ 0 ≤ x ∧ (S[o.toNat]?) = some (15, 1) ∧ (S[x.toNat]?).map Prod.fst = some 11 ∧ t.length ≤ 4 then some (.inr (.inl (mX11_test, [(2, x), (0, p), (0, q)], t, some o.toNat))) else none
      | _ => none
    | _ => if me'.2.2.2.2.2.1 + 1 ≤ st.length ∧ (st.drop (me'.2.2.2.2.2.1 + 1)).length ≤ 4 then
        match (st.take (me'.2.2.2.2.2.1 + 1)).reverse with
        | (2, a) :: as => if 0 ≤ a ∧ me'.2.2.1 < 13 ∧ (S[a.toNat]?).map Prod.fst = some me'.2.2.1 then some (.inr (.inl (me', (2, a) :: as, st.drop (me'.2.2.2.2.2.1 + 1), none))) else none
        | (3, a) :: as => if 0 ≤ a ∧ a < 10 ∧ me'.2.2.1 = 17 ∧ me'.2.2.2.2.2.2 = 1 then some (.inr (.inl (me', (3, a) :: as, st.drop (me'.2.2.2.2.2.1 + 1), none))) else none
        | _ => none
      else none
  else none
/-- where an exception is thrown: new; dup; ldc; invokespecial; athrow -/
def pm_thr (me : pm_Me) (pc : Nat) : Bool := decide (decode me.2.1 (pc + 3) = .ok (.dup, 1)) && decide (decode me.2.1 (pc + 6) = .ok (.invokespecial 136, 3)) && decide (decode me.2.1 (pc + 9) = .ok (.athrow, 1)) && (match decode me.2.1 (pc + 4) with
  | .ok (.ldc i, 2) => (pm_st me.2.2.1 i).isSome
  | _ => false)
def pm_ins (sc : Nat × (Nat → Int)) (me : pm_Me) (pc : Nat) (ls st : List pm_V) (S : pm_S) (M : pm_M) (len : Nat) (i : Instr) : Option pm_St := match i with
  | .iconst k => if len = 1 ∧ -1 ≤ k ∧ k ≤ 5 then pm_nx (pc + 1) ls ((0, k) :: st) S M else none
  | .bipush k => if len = 2 ∧ -128 ≤ k ∧ k ≤ 127 then pm_nx (pc + 2) ls ((0, k) :: st) S M else none
  | .sipush k => if len = 3 ∧ -32768 ≤ k ∧ k ≤ 32767 then pm_nx (pc + 3) ls ((0, k) :: st) S M else none
  | .lconst k => if len = 1 then pm_nx (pc + 1) ls ((1, (k.val : Int)) :: st) S M else none
  | .ldc j => if len = 2 then (match pm_st me.2.2.1 j with
      | some k => pm_nx (pc + 2) ls ((3, (k : Int)) :: st) S M
      | none => match pm_cn me.2.2.1 j with
        | some v => pm_nx (pc + 2) ls ((0, v) :: st) S M
        | none => none) else none
  | .ldc2_w j => if len = 3 then (match pm_cnL me.2.2.1 j with
      | some v => pm_nx (pc + 3) ls ((1, v) :: st) S M
      | none => none) else none
  | .ldc_w j => if len = 3 then (match pm_cn me.2.2.1 j with
      | some v => pm_nx (pc + 3) ls ((0, v) :: st) S M
      | none => none) else none
  | .getstatic j => if len = 3 then (match pm_sg me.2.2.1 j with
      | some 0 => pm_nx (pc + 3) ls ((0, 1) :: st) S M
      | some _ => pm_nx (pc + 3) ls ((6, 0) :: st) S M
      | none => none) else none
  | .iload k => if len = 2 then pm_ld ls k pm_isI (fun v => pm_nx (pc + 2) ls (v :: st) S M) else none
  | .iload_n k => if len = 1 then pm_ld ls k.val pm_isI (fun v => pm_nx (pc + 1) ls (v :: st) S M) else none
  | .lload k => if len = 2 then pm_ld ls k pm_isL (fun v => pm_nx (pc + 2) ls (v :: st) S M) else none
  | .lload_n k => if len = 1 then pm_ld ls k.val pm_isL (fun v => pm_nx (pc + 1) ls (v :: st) S M) else none
  | .aload k => if len = 2 then pm_ld ls k pm_isA (fun v => pm_nx (pc + 2) ls (v :: st) S M) else none
  | .aload_n k => if len = 1 then pm_ld ls k.val pm_isA (fun v => pm_nx (pc + 1) ls (v :: st) S M) else none
  | .istore k => if len = 2 then pm_sto ls st k pm_isI (fun v t => pm_nx (pc + 2) (pm_st1 ls k v) t S M) else none
  | .istore_n k => if len = 1 then pm_sto ls st k.val pm_isI (fun v t => pm_nx (pc + 1) (pm_st1 ls k.val v) t S M) else none
  | .astore k => if len = 2 then pm_sto ls st k pm_isA (fun v t => pm_nx (pc + 2) (pm_st1 ls k v) t S M) else none
  | .astore_n k => if len = 1 then pm_sto ls st k.val pm_isA (fun v t => pm_nx (pc + 1) (pm_st1 ls k.val v) t S M) else none
  | .lstore_n k => if len = 1 ∧ k.val + 1 < ls.length then pm_sto ls st k.val pm_isL (fun v t => pm_nx (pc + 1) (pm_st2 ls k.val v) t S M) else none
  | .iinc k n => if len = 3 ∧ k < ls.length then pm_ld ls k pm_isI (fun v => pm_nx (pc + 3) (pm_st1 ls k (0, w32 (v.2 + n))) st S M) else none
  | .iadd => pm_bin len st (fun a b => w32 (a + b)) (fun t => pm_nx (pc + 1) ls t S M)
  | .isub => pm_bin len st (fun a b => w32 (a - b)) (fun t => pm_nx (pc + 1) ls t S M)
  | .imul => pm_bin len st (fun a b => w32 (a * b)) (fun t => pm_nx (pc + 1) ls t S M)
  | .iand => pm_bin len st pm_iand (fun t => pm_nx (pc + 1) ls t S M)
  | .ior => pm_bin len st pm_ior (fun t => pm_nx (pc + 1) ls t S M)
  | .ixor => pm_bin len st pm_ixor (fun t => pm_nx (pc + 1) ls t S M)
  | .ishl => pm_bin len st pm_ishl (fun t => pm_nx (pc + 1) ls t S M)
  | .ishr => pm_bin len st pm_ishr (fun t => pm_nx (pc + 1) ls t S M)
  | .iushr => pm_bin len st pm_iushr (fun t => pm_nx (pc + 1) ls t S M)
  | .idiv => match st with
    | (0, b) :: (0, a) :: t => if len = 1 ∧ b ≠ 0 then pm_nx (pc + 1) ls ((0, w32 (a.tdiv b)) :: t) S M else none
    | _ => none
  | .irem => match st with
    | (0, b) :: (0, a) :: t => if len = 1 ∧ b ≠ 0 then pm_nx (pc + 1) ls ((0, a.tmod b) :: t) S M else none
    | _ => none
  | .ineg => pm_una len st (fun a => w32 (-a)) (fun t => pm_nx (pc + 1) ls t S M)
  | .i2b => pm_una len st w8 (fun t => pm_nx (pc + 1) ls t S M)
  | .i2c => pm_una len st (fun a => a % 65536) (fun t => pm_nx (pc + 1) ls t S M)
  | .i2l => match st with
    | (0, a) :: t => if len = 1 then pm_nx (pc + 1) ls ((1, a) :: t) S M else none
    | _ => none
  | .land => pm_biL len st pm_land (fun t => pm_nx (pc + 1) ls t S M)
  | .lor => pm_biL len st pm_lor (fun t => pm_nx (pc + 1) ls t S M)
  | .lshl => pm_shL len st pm_lshl (fun t => pm_nx (pc + 1) ls t S M)
  | .lshr => pm_shL len st pm_lshr (fun t => pm_nx (pc + 1) ls t S M)
  | .lcmp => match st with
    | (1, b) :: (1, a) :: t => if len = 1 then pm_nx (pc + 1) ls ((0, pm_lcmp a b) :: t) S M else none
    | _ => none
  | .dup => match st with
    | v :: t => if len = 1 ∧ v.1 ≠ 1 then pm_nx (pc + 1) ls (v :: v :: t) S M else none
    | [] => none
  | .pop => match st with
    | v :: t => if len = 1 ∧ v.1 ≠ 1 then pm_nx (pc + 1) ls t S M else none
    | [] => none
  | .dup2 => match st with
    | v :: u :: t => if len = 1 ∧ v.1 ≠ 1 ∧ u.1 ≠ 1 then pm_nx (pc + 1) ls (v :: u :: v :: u :: t) S M else none
    | _ => none
  | .goto off => if len = 3 then pm_jmp pc off (fun q => pm_nx q ls st S M) else none
  | .ifCond k off => match st with
    | (0, a) :: t => if len = 3 then pm_jmp pc off (fun q => pm_nx (if pm_cnd k a 0 = true then q else pc + 3) ls t S M) else none
    | _ => none
  | .if_icmp k off => match st with
    | (0, b) :: (0, a) :: t => if len = 3 then pm_jmp pc off (fun q => pm_nx (if pm_cnd k a b = true then q else pc + 3) ls t S M) else none
    | _ => none
  | .tableswitch dflt lo hi offs => match st with
    | (0, a) :: t => pm_jmp pc (if a < lo ∨ hi < a then dflt else (offs.toList.getD (a - lo).toNat dflt)) (fun q => if (a < lo ∨ hi < a) ∨ (a - lo).toNat < offs.size then pm_nx q ls t S M else none)
    | _ => none
  | .lookupswitch dflt ps => match st with
    | (0, a) :: t => if (ps.toList.zip (ps.toList.drop 1)).all (fun (a, next) => a.1 < next.1) = true then pm_jmp pc (Op.lookupswitch.offset ps.toList dflt a) (fun q => pm_nx q ls t S M) else none
    | _ => none
  | .getfield j => match st with
    | (2, a) :: t => if len = 3 ∧ 0 ≤ a then (match pm_fld me.2.2.1 j with
      | some (c, k) => if (S[a.toNat]?).map Prod.fst = some c then pm_nx (pc + 3) ls ((pm_ft c k, M a.toNat k) :: t) S M else none
      | none => none) else none
    | (3, a) :: t => if len = 3 ∧ 0 ≤ a ∧ a < 10 then (match pm_sf me.2.2.1 j with
      | some 0 => pm_nx (pc + 3) ls ((5, a) :: t) S M
      | some _ => pm_nx (pc + 3) ls ((0, 0) :: t) S M
      | none => none) else none
    | _ => none
  | .putfield j => match st with
    | v :: (2, a) :: t => if len = 3 ∧ 0 ≤ a then (match pm_fld me.2.2.1 j with
      | some (c, k) => if (S[a.toNat]?).map Prod.fst = some c ∧ pm_okF c k v = true ∧ ((pm_T c k).2.2.2 = true → (me.2.2.2.2.2.2 = 2 ∨ me.2.2.2.2.2.2 = 12) ∧ me.2.2.1 = c) then pm_nx (pc + 3) ls t S (pm_up M a.toNat k v.2) else none
      | none => none) else none
    | _ => none
  | .iaload => match st with
    | (0, i) :: (2, a) :: t => if len = 1 then pm_arr S a i (fun c => c == 14) (fun _ => pm_nx (pc + 1) ls ((0, M a.toNat i.toNat) :: t) S M) else none
    | (0, i) :: (4, _) :: t => if len = 1 ∧ 0 ≤ i ∧ i.toNat < sc.1 then pm_nx (pc + 1) ls ((0, sc.2 i.toNat) :: t) S M else none
    | _ => none
  | .baload => match st with
    | (0, i) :: (2, a) :: t => if len = 1 then pm_arr S a i (fun c => c == 13 || c == 16) (fun _ => pm_nx (pc + 1) ls ((0, M a.toNat i.toNat) :: t) S M) else none
    | (0, i) :: (5, a) :: t => if len = 1 ∧ 0 ≤ a ∧ a < 10 ∧ 0 ≤ i ∧ i.toNat < (pm_txt a.toNat).length then pm_nx (pc + 1) ls ((0, (pm_txt a.toNat).getD i.toNat 0) :: t) S M else none
    | _ => none
  | .laload => match st with
    | (0, i) :: (2, a) :: t => if len = 1 then pm_arr S a i (fun c => c == 15) (fun _ => pm_nx (pc + 1) ls ((1, M a.toNat i.toNat) :: t) S M) else none
    | _ => none
  | .aaload => match st with
    | (0, i) :: (2, a) :: t => if len = 1 then pm_arr S a i (fun c => c == 17) (fun _ => pm_nx (pc + 1) ls ((2, M a.toNat i.toNat) :: t) S M) else none
    | _ => none
  | .iastore => match st with
    | (0, v) :: (0, i) :: (2, a) :: t => if len = 1 then pm_arr S a i (fun c => c == 14) (fun _ => pm_nx (pc + 1) ls t S (pm_up M a.toNat i.toNat v)) else none
    | _ => none
  | .bastore => match st with
    | (0, v) :: (0, i) :: (2, a) :: t => if len = 1 then pm_arr S a i (fun c => c == 13 || (c == 16 && (v == 0 || v == 1))) (fun _ => pm_nx (pc + 1) ls t S (pm_up M a.toNat i.toNat (w8 v))) else none
    | _ => none
  | .lastore => match st with
    | (1, v) :: (0, i) :: (2, a) :: t => if len = 1 then pm_arr S a i (fun c => c == 15) (fun _ => pm_nx (pc + 1) ls t S (pm_up M a.toNat i.toNat v)) else none
    | _ => none
  | .arraylength => match st with
    | (2, a) :: t => if len = 1 ∧ 0 ≤ a then (match S[a.toNat]? with
      | some (c, n) => if 13 ≤ c ∧ c ≤ 17 ∧ n < 2147483648 then pm_nx (pc + 1) ls ((0, (n : Int)) :: t) S M else none
      | none => none) else none
    | (5, a) :: t => if len = 1 ∧ 0 ≤ a ∧ a < 10 then pm_nx (pc + 1) ls ((0, ((pm_txt a.toNat).length : Int)) :: t) S M else none
    | (4, _) :: t => if len = 1 ∧ sc.1 < 2147483648 then pm_nx (pc + 1) ls ((0, (sc.1 : Int)) :: t) S M else none
    | _ => none
  | .newarray ty => match st with
    | (0, n) :: t => if len = 2 ∧ 0 ≤ n ∧ n < 1000000 then (match ty with
      | .byte => pm_nx (pc + 2) ls ((2, (S.length : Int)) :: t) (S ++ [(13, n.toNat)]) (pm_nw M S.length (fun _ => 0))
      | .int => pm_nx (pc + 2) ls ((2, (S.length : Int)) :: t) (S ++ [(14, n.toNat)]) (pm_nw M S.length (fun _ => 0))
      | .long => pm_nx (pc + 2) ls ((2, (S.length : Int)) :: t) (S ++ [(15, n.toNat)]) (pm_nw M S.length (fun _ => 0))
      | .boolean => pm_nx (pc + 2) ls ((2, (S.length : Int)) :: t) (S ++ [(16, n.toNat)]) (pm_nw M S.length (fun _ => 0))
      | _ => none) else none
    | _ => none
  | .multianewarray j dims => match st with
    | (0, k) :: (0, n) :: t => if len = 4 ∧ dims = 2 ∧ 0 ≤ k ∧ k < 1000000 ∧ 0 ≤ n ∧ n < 1000000 ∧ (pm_grd.find? (fun e => e.1 == me.2.2.1 && e.2.1 == j)).isSome = true then
        pm_nx (pc + 4) ls ((2, (S.length : Int)) :: t) (S ++ (17, n.toNat) :: List.replicate n.toNat (14, k.toNat)) (fun b i => if b < S.length then M b i else if b = S.length then (S.length : Int) + 1 + i else 0) else none
    | _ => none
  | .new j => if len = 3 then (match pm_cl me.2.2.1 j with
      | some c => pm_nx (pc + 3) ls ((2, (S.length : Int)) :: st) (S ++ [(c, pm_N c)]) (pm_nw M S.length (pm_dfl c))
      | none => if (me.2.2.1, j) ∈ pm_exc ∧ st = [] ∧ pm_thr me pc = true then some (.inr (.inr (some (7, 0)))) else none) else none
  | .invokevirtual j => if len = 3 then (match pm_lnk me.2.2.1 j with
      | some me' => pm_inv (fun h => h == 1) me' st S pc ls M
      | none => none) else none
  | .invokestatic j => if len = 3 then (match pm_lnk me.2.2.1 j with
      | some me' => pm_inv (fun h => h == 0 || h == 7 || h == 8 || h == 9 || h == 13 || h == 14 || h == 15) me' st S pc ls M
      | none => none) else none
  | .invokespecial j => if len = 3 then (match pm_lnk me.2.2.1 j with
      | some me' => pm_inv (fun h => h == 2 || h == 12 || h == 3) me' st S pc ls M
      | none => none) else none
  | .ireturn => match st with
    | [(0, a)] => if len = 1 ∧ (me.2.2.2.2.1 = 0 ∨ (me.2.2.2.2.1 = 5 ∧ (a = 0 ∨ a = 1)) ∨ (me.2.2.2.2.1 = 7 ∧ 0 ≤ a ∧ a < 65536) ∨ (me.2.2.2.2.1 = 8 ∧ -128 ≤ a ∧ a < 128)) then some (.inr (.inr (some (0, a)))) else none
    | _ => none
  | .lreturn => match st with
    | [(1, a)] => if len = 1 ∧ me.2.2.2.2.1 = 1 then some (.inr (.inr (some (1, a)))) else none
    | _ => none
  | .return_ => if len = 1 ∧ st = [] ∧ me.2.2.2.2.1 = 6 then some (.inr (.inr none)) else none
  | _ => none
def pm_step (sc : Nat × (Nat → Int)) (me : pm_Me) (pc : Nat) (ls st : List pm_V) (S : pm_S) (M : pm_M) : Option pm_St := match decode me.2.1 pc with
  | .ok (i, len) => pm_ins sc me pc ls st S M len i
  | .error _ => none
/-- a method's locals at its start -/
def pm_ent (n : Nat) (as : List pm_V) : List pm_V := let w := as.flatMap (fun v => if v.1 = 1 then [v, (9, 0)] else [v]); w ++ List.replicate (n - w.length) (9, 0)
/-- the machine: n steps, d frames more; what a guarded call answers is told by 0 (and laid down) or 1 (thrown) -/
def pm_X (sc : Nat × (Nat → Int)) : Nat → Nat → pm_Me → Nat → List pm_V → List pm_V → pm_S → pm_M → Option (Option pm_V × pm_S × pm_M)
  | 0, _, _, _, _, _, _, _ => none
  | n + 1, d, me, pc, ls, st, S, M => match pm_step sc me pc ls st S M with
    | none => none
    | some (.inl q) => pm_X sc n d me q.1 q.2.1 q.2.2.1 q.2.2.2.1 q.2.2.2.2
    | some (.inr (.inr (some (7, _)))) => some (some (7, 0), S ++ [(18, 6)], M)
    | some (.inr (.inr r)) => some (r, S, M)
    | some (.inr (.inl q)) => if d < 20 ∨ (pm_ent q.1.2.2.2.1 q.2.1).length ≠ q.1.2.2.2.1 then none else match pm_X sc n (if q.2.2.2.isSome = true then d - 2 else d - 1) q.1 0 (pm_ent q.1.2.2.2.1 q.2.1) [] S M with
      | none => none
      | some (r, S', M') => match q.2.2.2 with
        | none => if r.map Prod.fst = some 7 then none else pm_X sc n d me (pc + 3) ls (r.toList ++ q.2.2.1) S' M'
        | some o => match r with
          | some (7, _) => pm_X sc n d me (pc + 3) ls ((0, 1) :: q.2.2.1) S' M'
          | some (0, v) => pm_X sc n d me (pc + 3) ls ((0, 0) :: q.2.2.1) S' (pm_up M' o 0 v)
          | _ => none

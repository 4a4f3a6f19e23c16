/-! one instruction: the small machine's step is the machine's -/
def pm_C (E : pm_E) (D : va_G) (cs : Nat → ClassId) (sc : Nat × (Nat → Int)) (p : Program) (R : Room) (s : State) (m : MethodId) (args : Array Value) (meth : Method) (c : Code) (me : pm_Me) (d : Nat) : Prop :=
  p.tables.exec = Jvm.exec ∧ c.code = me.2.1 ∧ c.maxLocals = me.2.2.2.1 ∧ s.vm.findClass (pm_own me.2.2.1) = some m.cls ∧ (∀ w ∈ pm_GW, w.before args s = true) ∧ pm_K E D cs sc s s.heap ∧ ((me.2.2.2.2.2.2 = 2 ∨ me.2.2.2.2.2.2 = 12) → meth.name = "<init>") ∧ d ≤ R.frames ∧ 64 * d ≤ R.locals ∧ 18 ≤ d
def pm_Y (E : pm_E) (D : va_G) (cs : Nat → ClassId) (s : State) (me : pm_Me) (S : pm_S) (M : pm_M) (ls st : List pm_V) (H : Heap) (locs : List Loc) (Ls : Array Slot) : Prop :=
  pm_R E D cs S M H ∧ pm_G S M ∧ va_S (pm_A E) s.heap H locs ∧ pm_L E ls Ls ∧ ls.length = me.2.2.2.1 ∧ (∀ v ∈ ls, pm_in v) ∧ (∀ v ∈ st, pm_in v)
def pm_k (E : pm_E) (D : va_G) (cs : Nat → ClassId) (p : Program) (l : Launch) (e : Env) (R : Room) (s : State) (m : MethodId) (args : Array Value) (below : List Frame) (meth : Method) (c : Code) (me : pm_Me) (Q : State → Prop) (cells slots : Nat) (S : pm_S) (q : Nat × List pm_V × List pm_V × pm_S × pm_M) : Prop :=
  ∀ (H' : Heap) (locs' : List Loc) (Ls' : Array Slot), pm_Y E D cs s me q.2.2.2.1 q.2.2.2.2 q.2.1 q.2.2.1 H' locs' Ls' → W p l e R s m args below meth c H' locs' (cells + (q.2.2.2.1.length - S.length)) (slots + (pm_sz q.2.2.2.1 - pm_sz S)) Q (F0 m q.1 Ls' (q.2.2.1.map (pm_v E)))
section PMI
variable {p : Program} {l : Launch} {e : Env} {R : Room} {s : State} {m : MethodId} {args : Array Value} {below : List Frame} {meth : Method} {c : Code} {H : Heap} {locs : List Loc} {cells slots : Nat} {Q : State → Prop}
variable {E : pm_E} {D : va_G} {cs : Nat → ClassId} {sc : Nat × (Nat → Int)} {me : pm_Me} {d pc len : Nat} {ls st t : List pm_V} {S : pm_S} {M : pm_M} {Ls : Array Slot} {q : Nat × List pm_V × List pm_V × pm_S × pm_M}
theorem pm_k0 {pc' : Nat} {ls' st' : List pm_V} {M' : pm_M} (k : pm_k E D cs p l e R s m args below meth c me Q cells slots S (pc', ls', st', S, M')) {H' : Heap} {locs' : List Loc} {Ls' : Array Slot} (Y : pm_Y E D cs s me S M' ls' st' H' locs' Ls') : W p l e R s m args below meth c H' locs' cells slots Q (F0 m pc' Ls' (st'.map (pm_v E))) := by
  have h := k H' locs' Ls' Y
  simp only [Nat.sub_self, Nat.add_zero] at h
  exact h
theorem pm_nxE {pc' : Nat} {ls' st' : List pm_V} {S' : pm_S} {M' : pm_M} (h : pm_nx pc' ls' st' S' M' = some (.inl q)) : q = (pc', ls', st', S', M') := by
  cases h
  rfl
theorem pm_lcmp_in (a b : Int) : -2147483648 ≤ pm_lcmp a b ∧ pm_lcmp a b < 2147483648 := by
  unfold pm_lcmp
  split
  · omega
  · split <;> omega
theorem pm_Y.stk (Y : pm_Y E D cs s me S M ls st H locs Ls) {st' : List pm_V} (h : ∀ v ∈ st', pm_in v) : pm_Y E D cs s me S M ls st' H locs Ls := ⟨Y.1, Y.2.1, Y.2.2.1, Y.2.2.2.1, Y.2.2.2.2.1, Y.2.2.2.2.2.1, h⟩
theorem pm_Y.i {v : pm_V} (Y : pm_Y E D cs s me S M ls st H locs Ls) (h : v ∈ st) : pm_in v := Y.2.2.2.2.2.2 v h
theorem pm_binS {f : Int → Int → Int} {kk : List pm_V → Option pm_St} {r : pm_St} (h : pm_bin len st f kk = some r) : ∃ a b t, st = (0, b) :: (0, a) :: t ∧ len = 1 ∧ kk ((0, f a b) :: t) = some r := by
  unfold pm_bin at h
  split at h
  · split at h
    · exact ⟨_, _, _, rfl, ‹_›, h⟩
    · cases h
  · cases h
theorem pm_unaS {f : Int → Int} {kk : List pm_V → Option pm_St} {r : pm_St} (h : pm_una len st f kk = some r) : ∃ a t, st = (0, a) :: t ∧ len = 1 ∧ kk ((0, f a) :: t) = some r := by
  unfold pm_una at h
  split at h
  · split at h
    · exact ⟨_, _, rfl, ‹_›, h⟩
    · cases h
  · cases h
theorem pm_biLS {f : Int → Int → Int} {kk : List pm_V → Option pm_St} {r : pm_St} (h : pm_biL len st f kk = some r) : ∃ a b t, st = (1, b) :: (1, a) :: t ∧ len = 1 ∧ kk ((1, f a b) :: t) = some r := by
  unfold pm_biL at h
  split at h
  · split at h
    · exact ⟨_, _, _, rfl, ‹_›, h⟩
    · cases h
  · cases h
theorem pm_shLS {f : Int → Int → Int} {kk : List pm_V → Option pm_St} {r : pm_St} (h : pm_shL len st f kk = some r) : ∃ a b t, st = (0, b) :: (1, a) :: t ∧ len = 1 ∧ kk ((1, f a b) :: t) = some r := by
  unfold pm_shL at h
  split at h
  · split at h
    · exact ⟨_, _, _, rfl, ‹_›, h⟩
    · cases h
  · cases h
theorem pm_jmpS {off : Int} {kk : Nat → Option pm_St} {r : pm_St} (h : pm_jmp pc off kk = some r) : ∃ tg : Nat, (pc : Int) + off = (tg : Int) ∧ kk tg = some r := by
  unfold pm_jmp at h
  split at h
  · exact ⟨_, (Int.toNat_of_nonneg ‹_›).symm, h⟩
  · cases h
theorem pm_ldS {i : Nat} {ok : pm_V → Bool} {kk : pm_V → Option pm_St} {r : pm_St} (h : pm_ld ls i ok kk = some r) : ∃ v, ls[i]? = some v ∧ ok v = true ∧ kk v = some r := by
  unfold pm_ld at h
  split at h
  · split at h
    · exact ⟨_, ‹_›, ‹_›, h⟩
    · cases h
  · cases h
theorem pm_stoS {i : Nat} {ok : pm_V → Bool} {kk : pm_V → List pm_V → Option pm_St} {r : pm_St} (h : pm_sto ls st i ok kk = some r) : ∃ v t, st = v :: t ∧ ok v = true ∧ i < ls.length ∧ kk v t = some r := by
  unfold pm_sto at h
  split at h
  · split at h
    · rename_i g
      exact ⟨_, _, rfl, g.1, g.2, h⟩
    · cases h
  · cases h
theorem pm_isIS {v : pm_V} (h : pm_isI v = true) : ∃ x, v = (0, x) := by
  obtain ⟨t, x⟩ := v
  have : t = 0 := by simpa [pm_isI] using h
  exact ⟨x, by rw [this]⟩
theorem pm_isLS {v : pm_V} (h : pm_isL v = true) : ∃ x, v = (1, x) := by
  obtain ⟨t, x⟩ := v
  have : t = 1 := by simpa [pm_isL] using h
  exact ⟨x, by rw [this]⟩
theorem pm_isAS {v : pm_V} (h : pm_isA v = true) : v.1 ≠ 9 ∧ v.1 ≠ 0 ∧ v.1 ≠ 1 ∧ ∃ a, pm_v E v = .ref a := by
  obtain ⟨t, x⟩ := v
  simp only [pm_isA, Bool.or_eq_true, Bool.and_eq_true, beq_iff_eq, decide_eq_true_eq] at h
  rcases h with ((⟨rfl, hx⟩ | rfl) | rfl) | rfl
  · refine ⟨by simp, by simp, by simp, E.1 + x.toNat, ?_⟩
    show (if x < 0 then Value.null else Value.ref (E.1 + x.toNat)) = _
    rw [if_neg (by omega)]
  · exact ⟨by simp, by simp, by simp, _, rfl⟩
  · exact ⟨by simp, by simp, by simp, _, rfl⟩
  · exact ⟨by simp, by simp, by simp, _, rfl⟩
theorem pm_Y.loc (Y : pm_Y E D cs s me S M ls st H locs Ls) {i : Nat} {v : pm_V} (h : ls[i]? = some v) (h9 : v.1 ≠ 9) : Ls[i]? = some (.val (pm_v E v)) ∧ pm_in v := ⟨Y.2.2.2.1.2.2 i v h h9, Y.2.2.2.2.2.1 v (List.mem_of_getElem? h)⟩
theorem pm_Y.psh (Y : pm_Y E D cs s me S M ls st H locs Ls) {v : pm_V} (h : pm_in v) : pm_Y E D cs s me S M ls (v :: st) H locs Ls := Y.stk (List.forall_mem_cons.mpr ⟨h, Y.2.2.2.2.2.2⟩)
theorem pm_Y.s1 (Y : pm_Y E D cs s me S M ls st H locs Ls) {i : Nat} {v : pm_V} (hi : i < ls.length) {Ls' : Array Slot} {t : List pm_V} (h : lv_has Ls' ls.length ((i, pm_v E v) :: (pm_ll E ls).filter (fun q => !(q.1 == i) && !(q.1 + 1 == i && q.2.category == 2)))) (hv : pm_in v) (ht : ∀ v ∈ t, pm_in v) : pm_Y E D cs s me S M (pm_st1 ls i v) t H locs Ls' :=
  ⟨Y.1, Y.2.1, Y.2.2.1, pm_L.st1 (Ls := Ls) hi h, by rw [pm_st1_len]; exact Y.2.2.2.2.1, pm_in_st1 Y.2.2.2.2.2.1 hv, ht⟩
theorem pm_Y.s2 (Y : pm_Y E D cs s me S M ls st H locs Ls) {i : Nat} {v : pm_V} (hi : i + 1 < ls.length) {Ls' : Array Slot} {t : List pm_V} (h : lv_has Ls' ls.length ((i, pm_v E v) :: (pm_ll E ls).filter (fun q => !(q.1 == i) && (!(q.1 == i + 1) && !(q.1 + 1 == i && q.2.category == 2))))) (hv : pm_in v) (ht : ∀ v ∈ t, pm_in v) : pm_Y E D cs s me S M (pm_st2 ls i v) t H locs Ls' :=
  ⟨Y.1, Y.2.1, Y.2.2.1, pm_L.st2 (Ls := Ls) hi h, by unfold pm_st2; rw [List.length_set, pm_st1_len]; exact Y.2.2.2.2.1, pm_in_st2 Y.2.2.2.2.2.1 hv, ht⟩
theorem pi_iconst {x : Int} (C : pm_C E D cs sc p R s m args meth c me d) (hdg : decode me.2.1 pc = .ok (.iconst x, len)) (h : pm_ins sc me pc ls st S M len (.iconst x) = some (.inl q)) (Y : pm_Y E D cs s me S M ls st H locs Ls) (k : pm_k E D cs p l e R s m args below meth c me Q cells slots S q) : W p l e R s m args below meth c H locs cells slots Q (F0 m pc Ls (st.map (pm_v E))) := by
  simp only [pm_ins] at h
  split at h
  · rename_i g
    obtain ⟨rfl, g1, g2⟩ := g
    cases pm_nxE h
    exact lv_iconst C.1 C.2.1 hdg (v := Int32.ofInt x) rfl (pm_k0 k (Y.psh (pm_in0 ⟨by omega, by omega⟩)))
  · cases h
theorem pi_bipush {x : Int} (C : pm_C E D cs sc p R s m args meth c me d) (hdg : decode me.2.1 pc = .ok (.bipush x, len)) (h : pm_ins sc me pc ls st S M len (.bipush x) = some (.inl q)) (Y : pm_Y E D cs s me S M ls st H locs Ls) (k : pm_k E D cs p l e R s m args below meth c me Q cells slots S q) : W p l e R s m args below meth c H locs cells slots Q (F0 m pc Ls (st.map (pm_v E))) := by
  simp only [pm_ins] at h
  split at h
  · rename_i g
    obtain ⟨rfl, g1, g2⟩ := g
    cases pm_nxE h
    exact lv_bipush C.1 C.2.1 hdg (v := Int32.ofInt x) (by apply pm_e32; rw [Int8.toInt_toInt32, Int8.toInt_ofInt, show Int8.size = 256 from rfl, Int.bmod_def]; split <;> omega) (pm_k0 k (Y.psh (pm_in0 ⟨by omega, by omega⟩)))
  · cases h
theorem pi_sipush {x : Int} (C : pm_C E D cs sc p R s m args meth c me d) (hdg : decode me.2.1 pc = .ok (.sipush x, len)) (h : pm_ins sc me pc ls st S M len (.sipush x) = some (.inl q)) (Y : pm_Y E D cs s me S M ls st H locs Ls) (k : pm_k E D cs p l e R s m args below meth c me Q cells slots S q) : W p l e R s m args below meth c H locs cells slots Q (F0 m pc Ls (st.map (pm_v E))) := by
  simp only [pm_ins] at h
  split at h
  · rename_i g
    obtain ⟨rfl, g1, g2⟩ := g
    cases pm_nxE h
    exact lv_sipush C.1 C.2.1 hdg (v := Int32.ofInt x) (by apply pm_e32; rw [Int16.toInt_toInt32, Int16.toInt_ofInt, show Int16.size = 65536 from rfl, Int.bmod_def]; split <;> omega) (pm_k0 k (Y.psh (pm_in0 ⟨by omega, by omega⟩)))
  · cases h
theorem pi_lconst {x : Fin 2} (C : pm_C E D cs sc p R s m args meth c me d) (hdg : decode me.2.1 pc = .ok (.lconst x, len)) (h : pm_ins sc me pc ls st S M len (.lconst x) = some (.inl q)) (Y : pm_Y E D cs s me S M ls st H locs Ls) (k : pm_k E D cs p l e R s m args below meth c me Q cells slots S q) : W p l e R s m args below meth c H locs cells slots Q (F0 m pc Ls (st.map (pm_v E))) := by
  simp only [pm_ins] at h
  split at h
  · rename_i g
    subst g
    cases pm_nxE h
    exact lv_lconst C.1 C.2.1 hdg (v := Int64.ofInt (x.val : Int)) (by apply pm_e64; rw [Int64.toInt_ofNat_of_lt (by omega)]) (pm_k0 k (Y.psh (pm_in1 ⟨by omega, by omega⟩)))
  · cases h
theorem pi_ldc {j : Nat} (C : pm_C E D cs sc p R s m args meth c me d) (hdg : decode me.2.1 pc = .ok (.ldc j, len)) (h : pm_ins sc me pc ls st S M len (.ldc j) = some (.inl q)) (Y : pm_Y E D cs s me S M ls st H locs Ls) (k : pm_k E D cs p l e R s m args below meth c me Q cells slots S q) : W p l e R s m args below meth c H locs cells slots Q (F0 m pc Ls (st.map (pm_v E))) := by
  simp only [pm_ins] at h
  split at h
  · rename_i g
    subst g
    split at h
    · rename_i i hi
      cases pm_nxE h
      obtain ⟨tx, hZ⟩ := pm_stS C.2.2.2.2.2.1 hi
      exact va_ldcS C.1 C.2.1 C.2.2.2.1 hZ hdg (pm_k0 k (Y.psh (pm_inx (by decide) (by decide))))
    · split at h
      · rename_i v hv
        cases pm_nxE h
        exact lv_ldc C.1 C.2.1 C.2.2.2.1 (C.2.2.2.2.1 _ (pm_cnS hv)) hdg (pm_k0 k (Y.psh (pm_in0 (pm_cn_in hv))))
      · cases h
  · cases h
theorem pi_ldc_w {j : Nat} (C : pm_C E D cs sc p R s m args meth c me d) (hdg : decode me.2.1 pc = .ok (.ldc_w j, len)) (h : pm_ins sc me pc ls st S M len (.ldc_w j) = some (.inl q)) (Y : pm_Y E D cs s me S M ls st H locs Ls) (k : pm_k E D cs p l e R s m args below meth c me Q cells slots S q) : W p l e R s m args below meth c H locs cells slots Q (F0 m pc Ls (st.map (pm_v E))) := by
  simp only [pm_ins] at h
  split at h
  · rename_i g
    subst g
    split at h
    · rename_i v hv
      cases pm_nxE h
      exact lv_ldcw C.1 C.2.1 C.2.2.2.1 (C.2.2.2.2.1 _ (pm_cnS hv)) hdg (pm_k0 k (Y.psh (pm_in0 (pm_cn_in hv))))
    · cases h
  · cases h
theorem pm_sgS {o i z : Nat} (h : pm_sg o i = some z) : (if z = 0 then Cond.fieldLink (pm_own o) i "java/lang/String" "COMPACT_STRINGS" "Z" else .fieldLink (pm_own o) i "jdk/internal/util/Preconditions" "SIOOBE_FORMATTER" "Ljava/util/function/BiFunction;") ∈ pm_GW := by
  unfold pm_sg at h
  cases he : pm_sta.find? (fun e => e.1 == o && e.2.1 == i) with
  | none => rw [he] at h; cases h
  | some e =>
    rw [he] at h
    have hm := List.mem_of_find?_eq_some he
    have hp := List.find?_some he
    simp only [Bool.and_eq_true, beq_iff_eq] at hp
    have hk := List.all_eq_true.mp pm_sta_ok e hm
    cases h
    have := pm_ckw hk (List.mem_singleton.mpr rfl)
    rw [hp.1, hp.2] at this
    exact this
theorem pm_sfS {o i z : Nat} (h : pm_sf o i = some z) : (if z = 0 then Cond.fieldLink (pm_own o) i "java/lang/String" "value" "[B" else .fieldLink (pm_own o) i "java/lang/String" "coder" "B") ∈ pm_GW := by
  unfold pm_sf at h
  cases he : pm_sfl.find? (fun e => e.1 == o && e.2.1 == i) with
  | none => rw [he] at h; cases h
  | some e =>
    rw [he] at h
    have hm := List.mem_of_find?_eq_some he
    have hp := List.find?_some he
    simp only [Bool.and_eq_true, beq_iff_eq] at hp
    have hk := List.all_eq_true.mp pm_sfl_ok e hm
    cases h
    have := pm_ckw hk (List.mem_singleton.mpr rfl)
    rw [hp.1, hp.2] at this
    exact this
theorem pi_getstatic {j : Nat} (C : pm_C E D cs sc p R s m args meth c me d) (hdg : decode me.2.1 pc = .ok (.getstatic j, len)) (h : pm_ins sc me pc ls st S M len (.getstatic j) = some (.inl q)) (Y : pm_Y E D cs s me S M ls st H locs Ls) (k : pm_k E D cs p l e R s m args below meth c me Q cells slots S q) : W p l e R s m args below meth c H locs cells slots Q (F0 m pc Ls (st.map (pm_v E))) := by
  simp only [pm_ins] at h
  split at h
  · rename_i g
    subst g
    split at h
    · rename_i hz
      have hl := pm_sgS hz
      rw [if_pos rfl] at hl
      cases pm_nxE h
      exact va_gets C.1 C.2.1 C.2.2.2.2.2.1.2.2.2.2.2.1.1 Y.2.2.1 C.2.2.2.1 (C.2.2.2.2.1 _ hl) (fun _ h9 => h9) hdg (pm_k0 k (Y.psh (pm_in0 (by omega))))
    · rename_i z hz0 hz
      have hl := pm_sgS hz
      rw [if_neg (fun e => hz0 (by rw [← e]))] at hl
      cases pm_nxE h
      exact va_gets C.1 C.2.1 C.2.2.2.2.2.1.2.2.2.2.1.2 Y.2.2.1 C.2.2.2.1 (C.2.2.2.2.1 _ hl) (fun _ h9 => h9) hdg (pm_k0 k (Y.psh (pm_inx (by decide) (by decide))))
    · cases h
  · cases h
theorem pi_ldc2_w {j : Nat} (C : pm_C E D cs sc p R s m args meth c me d) (hdg : decode me.2.1 pc = .ok (.ldc2_w j, len)) (h : pm_ins sc me pc ls st S M len (.ldc2_w j) = some (.inl q)) (Y : pm_Y E D cs s me S M ls st H locs Ls) (k : pm_k E D cs p l e R s m args below meth c me Q cells slots S q) : W p l e R s m args below meth c H locs cells slots Q (F0 m pc Ls (st.map (pm_v E))) := by
  simp only [pm_ins] at h
  split at h
  · rename_i g
    subst g
    split at h
    · rename_i v hv
      cases pm_nxE h
      exact lv_ldc2 C.1 C.2.1 C.2.2.2.1 (C.2.2.2.2.1 _ (pm_cnLS hv)) hdg (pm_k0 k (Y.psh (pm_in1 (pm_cnL_in hv))))
    · cases h
  · cases h
theorem pi_iload {x : Nat} (C : pm_C E D cs sc p R s m args meth c me d) (hdg : decode me.2.1 pc = .ok (.iload x, len)) (h : pm_ins sc me pc ls st S M len (.iload x) = some (.inl q)) (Y : pm_Y E D cs s me S M ls st H locs Ls) (k : pm_k E D cs p l e R s m args below meth c me Q cells slots S q) : W p l e R s m args below meth c H locs cells slots Q (F0 m pc Ls (st.map (pm_v E))) := by
  simp only [pm_ins] at h
  split at h
  · rename_i g
    subst g
    obtain ⟨v, hv, ho, h⟩ := pm_ldS h
    obtain ⟨y, rfl⟩ := pm_isIS ho
    cases pm_nxE h
    obtain ⟨h1, h2⟩ := Y.loc hv (by simp)
    exact lv_iload C.1 C.2.1 hdg h1 (pm_k0 k (Y.psh h2))
  · cases h
theorem pi_iload_n {x : Fin 4} (C : pm_C E D cs sc p R s m args meth c me d) (hdg : decode me.2.1 pc = .ok (.iload_n x, len)) (h : pm_ins sc me pc ls st S M len (.iload_n x) = some (.inl q)) (Y : pm_Y E D cs s me S M ls st H locs Ls) (k : pm_k E D cs p l e R s m args below meth c me Q cells slots S q) : W p l e R s m args below meth c H locs cells slots Q (F0 m pc Ls (st.map (pm_v E))) := by
  simp only [pm_ins] at h
  split at h
  · rename_i g
    subst g
    obtain ⟨v, hv, ho, h⟩ := pm_ldS h
    obtain ⟨y, rfl⟩ := pm_isIS ho
    cases pm_nxE h
    obtain ⟨h1, h2⟩ := Y.loc hv (by simp)
    exact lv_iload_n C.1 C.2.1 hdg rfl h1 (pm_k0 k (Y.psh h2))
  · cases h
theorem pi_lload {x : Nat} (C : pm_C E D cs sc p R s m args meth c me d) (hdg : decode me.2.1 pc = .ok (.lload x, len)) (h : pm_ins sc me pc ls st S M len (.lload x) = some (.inl q)) (Y : pm_Y E D cs s me S M ls st H locs Ls) (k : pm_k E D cs p l e R s m args below meth c me Q cells slots S q) : W p l e R s m args below meth c H locs cells slots Q (F0 m pc Ls (st.map (pm_v E))) := by
  simp only [pm_ins] at h
  split at h
  · rename_i g
    subst g
    obtain ⟨v, hv, ho, h⟩ := pm_ldS h
    obtain ⟨y, rfl⟩ := pm_isLS ho
    cases pm_nxE h
    obtain ⟨h1, h2⟩ := Y.loc hv (by simp)
    exact lv_lload C.1 C.2.1 hdg h1 (pm_k0 k (Y.psh h2))
  · cases h
theorem pi_lload_n {x : Fin 4} (C : pm_C E D cs sc p R s m args meth c me d) (hdg : decode me.2.1 pc = .ok (.lload_n x, len)) (h : pm_ins sc me pc ls st S M len (.lload_n x) = some (.inl q)) (Y : pm_Y E D cs s me S M ls st H locs Ls) (k : pm_k E D cs p l e R s m args below meth c me Q cells slots S q) : W p l e R s m args below meth c H locs cells slots Q (F0 m pc Ls (st.map (pm_v E))) := by
  simp only [pm_ins] at h
  split at h
  · rename_i g
    subst g
    obtain ⟨v, hv, ho, h⟩ := pm_ldS h
    obtain ⟨y, rfl⟩ := pm_isLS ho
    cases pm_nxE h
    obtain ⟨h1, h2⟩ := Y.loc hv (by simp)
    exact lv_lload_n C.1 C.2.1 hdg rfl h1 (pm_k0 k (Y.psh h2))
  · cases h
theorem pi_aload {x : Nat} (C : pm_C E D cs sc p R s m args meth c me d) (hdg : decode me.2.1 pc = .ok (.aload x, len)) (h : pm_ins sc me pc ls st S M len (.aload x) = some (.inl q)) (Y : pm_Y E D cs s me S M ls st H locs Ls) (k : pm_k E D cs p l e R s m args below meth c me Q cells slots S q) : W p l e R s m args below meth c H locs cells slots Q (F0 m pc Ls (st.map (pm_v E))) := by
  simp only [pm_ins] at h
  split at h
  · rename_i g
    subst g
    obtain ⟨v, hv, ho, h⟩ := pm_ldS h
    obtain ⟨h9, -, -, a, ha⟩ := pm_isAS (E := E) ho
    cases pm_nxE h
    obtain ⟨h1, h2⟩ := Y.loc hv h9
    rw [ha] at h1
    have k1 := pm_k0 k (Y.psh h2)
    simp only [List.map_cons, ha] at k1
    exact lv_aload C.1 C.2.1 hdg h1 k1
  · cases h
theorem pi_aload_n {x : Fin 4} (C : pm_C E D cs sc p R s m args meth c me d) (hdg : decode me.2.1 pc = .ok (.aload_n x, len)) (h : pm_ins sc me pc ls st S M len (.aload_n x) = some (.inl q)) (Y : pm_Y E D cs s me S M ls st H locs Ls) (k : pm_k E D cs p l e R s m args below meth c me Q cells slots S q) : W p l e R s m args below meth c H locs cells slots Q (F0 m pc Ls (st.map (pm_v E))) := by
  simp only [pm_ins] at h
  split at h
  · rename_i g
    subst g
    obtain ⟨v, hv, ho, h⟩ := pm_ldS h
    obtain ⟨h9, -, -, a, ha⟩ := pm_isAS (E := E) ho
    cases pm_nxE h
    obtain ⟨h1, h2⟩ := Y.loc hv h9
    rw [ha] at h1
    have k1 := pm_k0 k (Y.psh h2)
    simp only [List.map_cons, ha] at k1
    exact lv_aload_n C.1 C.2.1 hdg rfl h1 k1
  · cases h
theorem pi_istore {x : Nat} (C : pm_C E D cs sc p R s m args meth c me d) (hdg : decode me.2.1 pc = .ok (.istore x, len)) (h : pm_ins sc me pc ls st S M len (.istore x) = some (.inl q)) (Y : pm_Y E D cs s me S M ls st H locs Ls) (k : pm_k E D cs p l e R s m args below meth c me Q cells slots S q) : W p l e R s m args below meth c H locs cells slots Q (F0 m pc Ls (st.map (pm_v E))) := by
  simp only [pm_ins] at h
  split at h
  · rename_i g
    subst g
    obtain ⟨v, t, rfl, ho, hi, h⟩ := pm_stoS h
    obtain ⟨y, rfl⟩ := pm_isIS ho
    cases pm_nxE h
    exact lv_istore C.1 C.2.1 hdg Y.2.2.2.1.has hi rfl (fun Ls' hL => pm_k0 k (Y.s1 hi hL (Y.i List.mem_cons_self) (fun u hu => Y.i (List.mem_cons_of_mem _ hu))))
  · cases h
theorem pi_istore_n {x : Fin 4} (C : pm_C E D cs sc p R s m args meth c me d) (hdg : decode me.2.1 pc = .ok (.istore_n x, len)) (h : pm_ins sc me pc ls st S M len (.istore_n x) = some (.inl q)) (Y : pm_Y E D cs s me S M ls st H locs Ls) (k : pm_k E D cs p l e R s m args below meth c me Q cells slots S q) : W p l e R s m args below meth c H locs cells slots Q (F0 m pc Ls (st.map (pm_v E))) := by
  simp only [pm_ins] at h
  split at h
  · rename_i g
    subst g
    obtain ⟨v, t, rfl, ho, hi, h⟩ := pm_stoS h
    obtain ⟨y, rfl⟩ := pm_isIS ho
    cases pm_nxE h
    exact lv_istore_n C.1 C.2.1 hdg rfl Y.2.2.2.1.has hi rfl (fun Ls' hL => pm_k0 k (Y.s1 hi hL (Y.i List.mem_cons_self) (fun u hu => Y.i (List.mem_cons_of_mem _ hu))))
  · cases h
theorem pi_astore {x : Nat} (C : pm_C E D cs sc p R s m args meth c me d) (hdg : decode me.2.1 pc = .ok (.astore x, len)) (h : pm_ins sc me pc ls st S M len (.astore x) = some (.inl q)) (Y : pm_Y E D cs s me S M ls st H locs Ls) (k : pm_k E D cs p l e R s m args below meth c me Q cells slots S q) : W p l e R s m args below meth c H locs cells slots Q (F0 m pc Ls (st.map (pm_v E))) := by
  simp only [pm_ins] at h
  split at h
  · rename_i g
    subst g
    obtain ⟨v, t, rfl, ho, hi, h⟩ := pm_stoS h
    obtain ⟨h9, -, -, a, ha⟩ := pm_isAS (E := E) ho
    cases pm_nxE h
    simp only [List.map_cons, ha]
    exact lv_astore C.1 C.2.1 hdg Y.2.2.2.1.has hi rfl (fun Ls' hL => pm_k0 k (Y.s1 hi (by rw [ha]; exact hL) (Y.i List.mem_cons_self) (fun u hu => Y.i (List.mem_cons_of_mem _ hu))))
  · cases h
theorem pi_astore_n {x : Fin 4} (C : pm_C E D cs sc p R s m args meth c me d) (hdg : decode me.2.1 pc = .ok (.astore_n x, len)) (h : pm_ins sc me pc ls st S M len (.astore_n x) = some (.inl q)) (Y : pm_Y E D cs s me S M ls st H locs Ls) (k : pm_k E D cs p l e R s m args below meth c me Q cells slots S q) : W p l e R s m args below meth c H locs cells slots Q (F0 m pc Ls (st.map (pm_v E))) := by
  simp only [pm_ins] at h
  split at h
  · rename_i g
    subst g
    obtain ⟨v, t, rfl, ho, hi, h⟩ := pm_stoS h
    obtain ⟨h9, -, -, a, ha⟩ := pm_isAS (E := E) ho
    cases pm_nxE h
    simp only [List.map_cons, ha]
    exact lv_astore_n C.1 C.2.1 hdg rfl Y.2.2.2.1.has hi rfl (fun Ls' hL => pm_k0 k (Y.s1 hi (by rw [ha]; exact hL) (Y.i List.mem_cons_self) (fun u hu => Y.i (List.mem_cons_of_mem _ hu))))
  · cases h
theorem pi_lstore_n {x : Fin 4} (C : pm_C E D cs sc p R s m args meth c me d) (hdg : decode me.2.1 pc = .ok (.lstore_n x, len)) (h : pm_ins sc me pc ls st S M len (.lstore_n x) = some (.inl q)) (Y : pm_Y E D cs s me S M ls st H locs Ls) (k : pm_k E D cs p l e R s m args below meth c me Q cells slots S q) : W p l e R s m args below meth c H locs cells slots Q (F0 m pc Ls (st.map (pm_v E))) := by
  simp only [pm_ins] at h
  split at h
  · rename_i g
    obtain ⟨rfl, g2⟩ := g
    obtain ⟨v, t, rfl, ho, hi, h⟩ := pm_stoS h
    obtain ⟨y, rfl⟩ := pm_isLS ho
    cases pm_nxE h
    exact lv_lstore_n C.1 C.2.1 hdg rfl Y.2.2.2.1.has g2 rfl (fun Ls' hL => pm_k0 k (Y.s2 g2 hL (Y.i List.mem_cons_self) (fun u hu => Y.i (List.mem_cons_of_mem _ hu))))
  · cases h
theorem pi_iinc {x : Nat} {n : Int} (C : pm_C E D cs sc p R s m args meth c me d) (hdg : decode me.2.1 pc = .ok (.iinc x n, len)) (h : pm_ins sc me pc ls st S M len (.iinc x n) = some (.inl q)) (Y : pm_Y E D cs s me S M ls st H locs Ls) (k : pm_k E D cs p l e R s m args below meth c me Q cells slots S q) : W p l e R s m args below meth c H locs cells slots Q (F0 m pc Ls (st.map (pm_v E))) := by
  simp only [pm_ins] at h
  split at h
  · rename_i g
    obtain ⟨rfl, g2⟩ := g
    obtain ⟨v, hv, ho, h⟩ := pm_ldS h
    obtain ⟨y, rfl⟩ := pm_isIS ho
    cases pm_nxE h
    obtain ⟨j, hj⟩ := List.getElem?_of_mem ((pm_ll_mem (E := E) (ls := ls) (q := (x, pm_v E (0, y)))).mpr ⟨(0, y), hv, by simp, rfl⟩)
    exact lv_iinc C.1 C.2.1 hdg Y.2.2.2.1.has hj (v := Int32.ofInt (w32 (y + n))) (by rw [pm_w32w, Int32.ofInt_add]) g2 rfl (fun Ls' hL => pm_k0 k (Y.s1 (v := (0, w32 (y + n))) g2 hL (pm_in0 (w32_in _)) Y.2.2.2.2.2.2))
  · cases h
theorem pi_iadd (C : pm_C E D cs sc p R s m args meth c me d) (hdg : decode me.2.1 pc = .ok (.iadd, len)) (h : pm_ins sc me pc ls st S M len (.iadd) = some (.inl q)) (Y : pm_Y E D cs s me S M ls st H locs Ls) (k : pm_k E D cs p l e R s m args below meth c me Q cells slots S q) : W p l e R s m args below meth c H locs cells slots Q (F0 m pc Ls (st.map (pm_v E))) := by
  simp only [pm_ins] at h
  obtain ⟨a, b, t, rfl, rfl, h⟩ := pm_binS h
  cases pm_nxE h
  show W p l e R s m args below meth c H locs cells slots Q (F0 m pc Ls (.int (Int32.ofInt b) :: .int (Int32.ofInt a) :: t.map (pm_v E)))
  refine lv_iadd C.1 C.2.1 hdg ?_
  rw [pm_iadd]
  exact pm_k0 k (Y.stk (List.forall_mem_cons.mpr ⟨pm_in0 (w32_in _), (fun u hu => Y.i (List.mem_cons_of_mem _ (List.mem_cons_of_mem _ hu)))⟩))
theorem pi_isub (C : pm_C E D cs sc p R s m args meth c me d) (hdg : decode me.2.1 pc = .ok (.isub, len)) (h : pm_ins sc me pc ls st S M len (.isub) = some (.inl q)) (Y : pm_Y E D cs s me S M ls st H locs Ls) (k : pm_k E D cs p l e R s m args below meth c me Q cells slots S q) : W p l e R s m args below meth c H locs cells slots Q (F0 m pc Ls (st.map (pm_v E))) := by
  simp only [pm_ins] at h
  obtain ⟨a, b, t, rfl, rfl, h⟩ := pm_binS h
  cases pm_nxE h
  show W p l e R s m args below meth c H locs cells slots Q (F0 m pc Ls (.int (Int32.ofInt b) :: .int (Int32.ofInt a) :: t.map (pm_v E)))
  refine lv_isub C.1 C.2.1 hdg ?_
  rw [pm_isub]
  exact pm_k0 k (Y.stk (List.forall_mem_cons.mpr ⟨pm_in0 (w32_in _), (fun u hu => Y.i (List.mem_cons_of_mem _ (List.mem_cons_of_mem _ hu)))⟩))
theorem pi_imul (C : pm_C E D cs sc p R s m args meth c me d) (hdg : decode me.2.1 pc = .ok (.imul, len)) (h : pm_ins sc me pc ls st S M len (.imul) = some (.inl q)) (Y : pm_Y E D cs s me S M ls st H locs Ls) (k : pm_k E D cs p l e R s m args below meth c me Q cells slots S q) : W p l e R s m args below meth c H locs cells slots Q (F0 m pc Ls (st.map (pm_v E))) := by
  simp only [pm_ins] at h
  obtain ⟨a, b, t, rfl, rfl, h⟩ := pm_binS h
  cases pm_nxE h
  show W p l e R s m args below meth c H locs cells slots Q (F0 m pc Ls (.int (Int32.ofInt b) :: .int (Int32.ofInt a) :: t.map (pm_v E)))
  refine lv_imul C.1 C.2.1 hdg ?_
  rw [pm_imul]
  exact pm_k0 k (Y.stk (List.forall_mem_cons.mpr ⟨pm_in0 (w32_in _), (fun u hu => Y.i (List.mem_cons_of_mem _ (List.mem_cons_of_mem _ hu)))⟩))
theorem pi_iand (C : pm_C E D cs sc p R s m args meth c me d) (hdg : decode me.2.1 pc = .ok (.iand, len)) (h : pm_ins sc me pc ls st S M len (.iand) = some (.inl q)) (Y : pm_Y E D cs s me S M ls st H locs Ls) (k : pm_k E D cs p l e R s m args below meth c me Q cells slots S q) : W p l e R s m args below meth c H locs cells slots Q (F0 m pc Ls (st.map (pm_v E))) := by
  simp only [pm_ins] at h
  obtain ⟨a, b, t, rfl, rfl, h⟩ := pm_binS h
  cases pm_nxE h
  show W p l e R s m args below meth c H locs cells slots Q (F0 m pc Ls (.int (Int32.ofInt b) :: .int (Int32.ofInt a) :: t.map (pm_v E)))
  refine lv_iand C.1 C.2.1 hdg ?_
  rw [show Int32.ofInt a &&& Int32.ofInt b = _ from pm_e32 (y := pm_iand a b) rfl]
  exact pm_k0 k (Y.stk (List.forall_mem_cons.mpr ⟨pm_in0 (pm_r32 _), (fun u hu => Y.i (List.mem_cons_of_mem _ (List.mem_cons_of_mem _ hu)))⟩))
theorem pi_ior (C : pm_C E D cs sc p R s m args meth c me d) (hdg : decode me.2.1 pc = .ok (.ior, len)) (h : pm_ins sc me pc ls st S M len (.ior) = some (.inl q)) (Y : pm_Y E D cs s me S M ls st H locs Ls) (k : pm_k E D cs p l e R s m args below meth c me Q cells slots S q) : W p l e R s m args below meth c H locs cells slots Q (F0 m pc Ls (st.map (pm_v E))) := by
  simp only [pm_ins] at h
  obtain ⟨a, b, t, rfl, rfl, h⟩ := pm_binS h
  cases pm_nxE h
  show W p l e R s m args below meth c H locs cells slots Q (F0 m pc Ls (.int (Int32.ofInt b) :: .int (Int32.ofInt a) :: t.map (pm_v E)))
  refine lv_ior C.1 C.2.1 hdg ?_
  rw [show Int32.ofInt a ||| Int32.ofInt b = _ from pm_e32 (y := pm_ior a b) rfl]
  exact pm_k0 k (Y.stk (List.forall_mem_cons.mpr ⟨pm_in0 (pm_r32 _), (fun u hu => Y.i (List.mem_cons_of_mem _ (List.mem_cons_of_mem _ hu)))⟩))
theorem pi_ixor (C : pm_C E D cs sc p R s m args meth c me d) (hdg : decode me.2.1 pc = .ok (.ixor, len)) (h : pm_ins sc me pc ls st S M len (.ixor) = some (.inl q)) (Y : pm_Y E D cs s me S M ls st H locs Ls) (k : pm_k E D cs p l e R s m args below meth c me Q cells slots S q) : W p l e R s m args below meth c H locs cells slots Q (F0 m pc Ls (st.map (pm_v E))) := by
  simp only [pm_ins] at h
  obtain ⟨a, b, t, rfl, rfl, h⟩ := pm_binS h
  cases pm_nxE h
  show W p l e R s m args below meth c H locs cells slots Q (F0 m pc Ls (.int (Int32.ofInt b) :: .int (Int32.ofInt a) :: t.map (pm_v E)))
  refine lv_ixor C.1 C.2.1 hdg ?_
  rw [show Int32.ofInt a ^^^ Int32.ofInt b = _ from pm_e32 (y := pm_ixor a b) rfl]
  exact pm_k0 k (Y.stk (List.forall_mem_cons.mpr ⟨pm_in0 (pm_r32 _), (fun u hu => Y.i (List.mem_cons_of_mem _ (List.mem_cons_of_mem _ hu)))⟩))
theorem pi_ishl (C : pm_C E D cs sc p R s m args meth c me d) (hdg : decode me.2.1 pc = .ok (.ishl, len)) (h : pm_ins sc me pc ls st S M len (.ishl) = some (.inl q)) (Y : pm_Y E D cs s me S M ls st H locs Ls) (k : pm_k E D cs p l e R s m args below meth c me Q cells slots S q) : W p l e R s m args below meth c H locs cells slots Q (F0 m pc Ls (st.map (pm_v E))) := by
  simp only [pm_ins] at h
  obtain ⟨a, b, t, rfl, rfl, h⟩ := pm_binS h
  cases pm_nxE h
  show W p l e R s m args below meth c H locs cells slots Q (F0 m pc Ls (.int (Int32.ofInt b) :: .int (Int32.ofInt a) :: t.map (pm_v E)))
  refine lv_ishl C.1 C.2.1 hdg ?_
  rw [show Int32.ofInt a <<< (Int32.ofInt b &&& 31) = _ from pm_e32 (y := pm_ishl a b) rfl]
  exact pm_k0 k (Y.stk (List.forall_mem_cons.mpr ⟨pm_in0 (pm_r32 _), (fun u hu => Y.i (List.mem_cons_of_mem _ (List.mem_cons_of_mem _ hu)))⟩))
theorem pi_ishr (C : pm_C E D cs sc p R s m args meth c me d) (hdg : decode me.2.1 pc = .ok (.ishr, len)) (h : pm_ins sc me pc ls st S M len (.ishr) = some (.inl q)) (Y : pm_Y E D cs s me S M ls st H locs Ls) (k : pm_k E D cs p l e R s m args below meth c me Q cells slots S q) : W p l e R s m args below meth c H locs cells slots Q (F0 m pc Ls (st.map (pm_v E))) := by
  simp only [pm_ins] at h
  obtain ⟨a, b, t, rfl, rfl, h⟩ := pm_binS h
  cases pm_nxE h
  show W p l e R s m args below meth c H locs cells slots Q (F0 m pc Ls (.int (Int32.ofInt b) :: .int (Int32.ofInt a) :: t.map (pm_v E)))
  refine lv_ishr C.1 C.2.1 hdg ?_
  rw [show Int32.ofInt a >>> (Int32.ofInt b &&& 31) = _ from pm_e32 (y := pm_ishr a b) rfl]
  exact pm_k0 k (Y.stk (List.forall_mem_cons.mpr ⟨pm_in0 (pm_r32 _), (fun u hu => Y.i (List.mem_cons_of_mem _ (List.mem_cons_of_mem _ hu)))⟩))
theorem pi_iushr (C : pm_C E D cs sc p R s m args meth c me d) (hdg : decode me.2.1 pc = .ok (.iushr, len)) (h : pm_ins sc me pc ls st S M len (.iushr) = some (.inl q)) (Y : pm_Y E D cs s me S M ls st H locs Ls) (k : pm_k E D cs p l e R s m args below meth c me Q cells slots S q) : W p l e R s m args below meth c H locs cells slots Q (F0 m pc Ls (st.map (pm_v E))) := by
  simp only [pm_ins] at h
  obtain ⟨a, b, t, rfl, rfl, h⟩ := pm_binS h
  cases pm_nxE h
  show W p l e R s m args below meth c H locs cells slots Q (F0 m pc Ls (.int (Int32.ofInt b) :: .int (Int32.ofInt a) :: t.map (pm_v E)))
  refine lv_iushr C.1 C.2.1 hdg (v := Int32.ofInt (pm_iushr a b)) (pm_e32 rfl) ?_
  exact pm_k0 k (Y.stk (List.forall_mem_cons.mpr ⟨pm_in0 (pm_r32 _), (fun u hu => Y.i (List.mem_cons_of_mem _ (List.mem_cons_of_mem _ hu)))⟩))
theorem pi_idiv (C : pm_C E D cs sc p R s m args meth c me d) (hdg : decode me.2.1 pc = .ok (.idiv, len)) (h : pm_ins sc me pc ls st S M len (.idiv) = some (.inl q)) (Y : pm_Y E D cs s me S M ls st H locs Ls) (k : pm_k E D cs p l e R s m args below meth c me Q cells slots S q) : W p l e R s m args below meth c H locs cells slots Q (F0 m pc Ls (st.map (pm_v E))) := by
  simp only [pm_ins] at h
  split at h
  · rename_i b a t
    split at h
    · rename_i g
      obtain ⟨rfl, g2⟩ := g
      cases pm_nxE h
      have hb : -2147483648 ≤ b ∧ b < 2147483648 := (Y.i List.mem_cons_self).1 rfl
      have ha : -2147483648 ≤ a ∧ a < 2147483648 := (Y.i (List.mem_cons_of_mem _ List.mem_cons_self)).1 rfl
      show W p l e R s m args below meth c H locs cells slots Q (F0 m pc Ls (.int (Int32.ofInt b) :: .int (Int32.ofInt a) :: t.map (pm_v E)))
      refine lv_idiv C.1 C.2.1 hdg (fun e => g2 ((pm_eq (b := 0) hb (by omega)).mp e)) ?_
      rw [pm_idiv ha hb]
      exact pm_k0 k (Y.stk (List.forall_mem_cons.mpr ⟨pm_in0 (w32_in _), (fun u hu => Y.i (List.mem_cons_of_mem _ (List.mem_cons_of_mem _ hu)))⟩))
    · cases h
  · cases h
theorem pi_irem (C : pm_C E D cs sc p R s m args meth c me d) (hdg : decode me.2.1 pc = .ok (.irem, len)) (h : pm_ins sc me pc ls st S M len (.irem) = some (.inl q)) (Y : pm_Y E D cs s me S M ls st H locs Ls) (k : pm_k E D cs p l e R s m args below meth c me Q cells slots S q) : W p l e R s m args below meth c H locs cells slots Q (F0 m pc Ls (st.map (pm_v E))) := by
  simp only [pm_ins] at h
  split at h
  · rename_i b a t
    split at h
    · rename_i g
      obtain ⟨rfl, g2⟩ := g
      cases pm_nxE h
      have hb : -2147483648 ≤ b ∧ b < 2147483648 := (Y.i List.mem_cons_self).1 rfl
      have ha : -2147483648 ≤ a ∧ a < 2147483648 := (Y.i (List.mem_cons_of_mem _ List.mem_cons_self)).1 rfl
      show W p l e R s m args below meth c H locs cells slots Q (F0 m pc Ls (.int (Int32.ofInt b) :: .int (Int32.ofInt a) :: t.map (pm_v E)))
      refine lv_irem C.1 C.2.1 hdg (fun e => g2 ((pm_eq (b := 0) hb (by omega)).mp e)) ?_
      rw [pm_irem ha hb g2]
      exact pm_k0 k (Y.stk (List.forall_mem_cons.mpr ⟨pm_in0 (pm_irem_in ha), (fun u hu => Y.i (List.mem_cons_of_mem _ (List.mem_cons_of_mem _ hu)))⟩))
    · cases h
  · cases h
theorem pi_ineg (C : pm_C E D cs sc p R s m args meth c me d) (hdg : decode me.2.1 pc = .ok (.ineg, len)) (h : pm_ins sc me pc ls st S M len (.ineg) = some (.inl q)) (Y : pm_Y E D cs s me S M ls st H locs Ls) (k : pm_k E D cs p l e R s m args below meth c me Q cells slots S q) : W p l e R s m args below meth c H locs cells slots Q (F0 m pc Ls (st.map (pm_v E))) := by
  simp only [pm_ins] at h
  obtain ⟨a, t, rfl, rfl, h⟩ := pm_unaS h
  cases pm_nxE h
  show W p l e R s m args below meth c H locs cells slots Q (F0 m pc Ls (.int (Int32.ofInt a) :: t.map (pm_v E)))
  refine lv_ineg C.1 C.2.1 hdg ?_
  rw [pm_ineg]
  exact pm_k0 k (Y.stk (List.forall_mem_cons.mpr ⟨pm_in0 (w32_in _), (fun u hu => Y.i (List.mem_cons_of_mem _ hu))⟩))
theorem pi_i2b (C : pm_C E D cs sc p R s m args meth c me d) (hdg : decode me.2.1 pc = .ok (.i2b, len)) (h : pm_ins sc me pc ls st S M len (.i2b) = some (.inl q)) (Y : pm_Y E D cs s me S M ls st H locs Ls) (k : pm_k E D cs p l e R s m args below meth c me Q cells slots S q) : W p l e R s m args below meth c H locs cells slots Q (F0 m pc Ls (st.map (pm_v E))) := by
  simp only [pm_ins] at h
  obtain ⟨a, t, rfl, rfl, h⟩ := pm_unaS h
  cases pm_nxE h
  show W p l e R s m args below meth c H locs cells slots Q (F0 m pc Ls (.int (Int32.ofInt a) :: t.map (pm_v E)))
  have := w8_in a
  refine lv_i2b C.1 C.2.1 hdg (pm_i2b a) ?_
  exact pm_k0 k (Y.stk (List.forall_mem_cons.mpr ⟨pm_in0 ⟨by omega, by omega⟩, (fun u hu => Y.i (List.mem_cons_of_mem _ hu))⟩))
theorem pi_i2c (C : pm_C E D cs sc p R s m args meth c me d) (hdg : decode me.2.1 pc = .ok (.i2c, len)) (h : pm_ins sc me pc ls st S M len (.i2c) = some (.inl q)) (Y : pm_Y E D cs s me S M ls st H locs Ls) (k : pm_k E D cs p l e R s m args below meth c me Q cells slots S q) : W p l e R s m args below meth c H locs cells slots Q (F0 m pc Ls (st.map (pm_v E))) := by
  simp only [pm_ins] at h
  obtain ⟨a, t, rfl, rfl, h⟩ := pm_unaS h
  cases pm_nxE h
  show W p l e R s m args below meth c H locs cells slots Q (F0 m pc Ls (.int (Int32.ofInt a) :: t.map (pm_v E)))
  refine lv_i2c C.1 C.2.1 hdg (pm_i2c ((Y.i List.mem_cons_self).1 rfl)) ?_
  exact pm_k0 k (Y.stk (List.forall_mem_cons.mpr ⟨pm_in0 (x := a % 65536) ⟨by omega, by omega⟩, (fun u hu => Y.i (List.mem_cons_of_mem _ hu))⟩))
theorem pi_i2l (C : pm_C E D cs sc p R s m args meth c me d) (hdg : decode me.2.1 pc = .ok (.i2l, len)) (h : pm_ins sc me pc ls st S M len (.i2l) = some (.inl q)) (Y : pm_Y E D cs s me S M ls st H locs Ls) (k : pm_k E D cs p l e R s m args below meth c me Q cells slots S q) : W p l e R s m args below meth c H locs cells slots Q (F0 m pc Ls (st.map (pm_v E))) := by
  simp only [pm_ins] at h
  split at h
  · rename_i a t
    split at h
    · rename_i g
      subst g
      cases pm_nxE h
      have ha : -2147483648 ≤ a ∧ a < 2147483648 := (Y.i List.mem_cons_self).1 rfl
      show W p l e R s m args below meth c H locs cells slots Q (F0 m pc Ls (.int (Int32.ofInt a) :: t.map (pm_v E)))
      exact lv_i2l C.1 C.2.1 hdg (pm_i2l ha) (pm_k0 k (Y.stk (List.forall_mem_cons.mpr ⟨pm_in1 ⟨by omega, by omega⟩, (fun u hu => Y.i (List.mem_cons_of_mem _ hu))⟩)))
    · cases h
  · cases h
theorem pi_land (C : pm_C E D cs sc p R s m args meth c me d) (hdg : decode me.2.1 pc = .ok (.land, len)) (h : pm_ins sc me pc ls st S M len (.land) = some (.inl q)) (Y : pm_Y E D cs s me S M ls st H locs Ls) (k : pm_k E D cs p l e R s m args below meth c me Q cells slots S q) : W p l e R s m args below meth c H locs cells slots Q (F0 m pc Ls (st.map (pm_v E))) := by
  simp only [pm_ins] at h
  obtain ⟨a, b, t, rfl, rfl, h⟩ := pm_biLS h
  cases pm_nxE h
  show W p l e R s m args below meth c H locs cells slots Q (F0 m pc Ls (.long (Int64.ofInt b) :: .long (Int64.ofInt a) :: t.map (pm_v E)))
  refine lv_land C.1 C.2.1 hdg ?_
  rw [show Int64.ofInt a &&& Int64.ofInt b = _ from pm_e64 (y := pm_land a b) rfl]
  exact pm_k0 k (Y.stk (List.forall_mem_cons.mpr ⟨pm_in1 (pm_r64 _), (fun u hu => Y.i (List.mem_cons_of_mem _ (List.mem_cons_of_mem _ hu)))⟩))
theorem pi_lor (C : pm_C E D cs sc p R s m args meth c me d) (hdg : decode me.2.1 pc = .ok (.lor, len)) (h : pm_ins sc me pc ls st S M len (.lor) = some (.inl q)) (Y : pm_Y E D cs s me S M ls st H locs Ls) (k : pm_k E D cs p l e R s m args below meth c me Q cells slots S q) : W p l e R s m args below meth c H locs cells slots Q (F0 m pc Ls (st.map (pm_v E))) := by
  simp only [pm_ins] at h
  obtain ⟨a, b, t, rfl, rfl, h⟩ := pm_biLS h
  cases pm_nxE h
  show W p l e R s m args below meth c H locs cells slots Q (F0 m pc Ls (.long (Int64.ofInt b) :: .long (Int64.ofInt a) :: t.map (pm_v E)))
  refine lv_lor C.1 C.2.1 hdg ?_
  rw [show Int64.ofInt a ||| Int64.ofInt b = _ from pm_e64 (y := pm_lor a b) rfl]
  exact pm_k0 k (Y.stk (List.forall_mem_cons.mpr ⟨pm_in1 (pm_r64 _), (fun u hu => Y.i (List.mem_cons_of_mem _ (List.mem_cons_of_mem _ hu)))⟩))
theorem pi_lshl (C : pm_C E D cs sc p R s m args meth c me d) (hdg : decode me.2.1 pc = .ok (.lshl, len)) (h : pm_ins sc me pc ls st S M len (.lshl) = some (.inl q)) (Y : pm_Y E D cs s me S M ls st H locs Ls) (k : pm_k E D cs p l e R s m args below meth c me Q cells slots S q) : W p l e R s m args below meth c H locs cells slots Q (F0 m pc Ls (st.map (pm_v E))) := by
  simp only [pm_ins] at h
  obtain ⟨a, b, t, rfl, rfl, h⟩ := pm_shLS h
  cases pm_nxE h
  show W p l e R s m args below meth c H locs cells slots Q (F0 m pc Ls (.int (Int32.ofInt b) :: .long (Int64.ofInt a) :: t.map (pm_v E)))
  refine lv_lshl C.1 C.2.1 hdg (v := Int64.ofInt (pm_lshl a b)) (pm_e64 rfl) ?_
  exact pm_k0 k (Y.stk (List.forall_mem_cons.mpr ⟨pm_in1 (pm_r64 _), (fun u hu => Y.i (List.mem_cons_of_mem _ (List.mem_cons_of_mem _ hu)))⟩))
theorem pi_lshr (C : pm_C E D cs sc p R s m args meth c me d) (hdg : decode me.2.1 pc = .ok (.lshr, len)) (h : pm_ins sc me pc ls st S M len (.lshr) = some (.inl q)) (Y : pm_Y E D cs s me S M ls st H locs Ls) (k : pm_k E D cs p l e R s m args below meth c me Q cells slots S q) : W p l e R s m args below meth c H locs cells slots Q (F0 m pc Ls (st.map (pm_v E))) := by
  simp only [pm_ins] at h
  obtain ⟨a, b, t, rfl, rfl, h⟩ := pm_shLS h
  cases pm_nxE h
  show W p l e R s m args below meth c H locs cells slots Q (F0 m pc Ls (.int (Int32.ofInt b) :: .long (Int64.ofInt a) :: t.map (pm_v E)))
  refine lv_lshr C.1 C.2.1 hdg (v := Int64.ofInt (pm_lshr a b)) (pm_e64 rfl) ?_
  exact pm_k0 k (Y.stk (List.forall_mem_cons.mpr ⟨pm_in1 (pm_r64 _), (fun u hu => Y.i (List.mem_cons_of_mem _ (List.mem_cons_of_mem _ hu)))⟩))
theorem pi_lcmp (C : pm_C E D cs sc p R s m args meth c me d) (hdg : decode me.2.1 pc = .ok (.lcmp, len)) (h : pm_ins sc me pc ls st S M len (.lcmp) = some (.inl q)) (Y : pm_Y E D cs s me S M ls st H locs Ls) (k : pm_k E D cs p l e R s m args below meth c me Q cells slots S q) : W p l e R s m args below meth c H locs cells slots Q (F0 m pc Ls (st.map (pm_v E))) := by
  simp only [pm_ins] at h
  split at h
  · rename_i b a t
    split at h
    · rename_i g
      subst g
      cases pm_nxE h
      show W p l e R s m args below meth c H locs cells slots Q (F0 m pc Ls (.long (Int64.ofInt b) :: .long (Int64.ofInt a) :: t.map (pm_v E)))
      refine W.lcmp C.1 C.2.1 hdg ?_
      rw [pm_lcmpE ((Y.i (List.mem_cons_of_mem _ List.mem_cons_self)).2 rfl) ((Y.i List.mem_cons_self).2 rfl)]
      exact pm_k0 k (Y.stk (List.forall_mem_cons.mpr ⟨pm_in0 (pm_lcmp_in a b), (fun u hu => Y.i (List.mem_cons_of_mem _ (List.mem_cons_of_mem _ hu)))⟩))
    · cases h
  · cases h
theorem pi_dup (C : pm_C E D cs sc p R s m args meth c me d) (hdg : decode me.2.1 pc = .ok (.dup, len)) (h : pm_ins sc me pc ls st S M len (.dup) = some (.inl q)) (Y : pm_Y E D cs s me S M ls st H locs Ls) (k : pm_k E D cs p l e R s m args below meth c me Q cells slots S q) : W p l e R s m args below meth c H locs cells slots Q (F0 m pc Ls (st.map (pm_v E))) := by
  simp only [pm_ins] at h
  split at h
  · rename_i v t
    split at h
    · rename_i g
      obtain ⟨rfl, g2⟩ := g
      cases pm_nxE h
      exact lv_dup C.1 C.2.1 hdg (by rw [pm_cat, if_neg g2]) (pm_k0 k (Y.stk (List.forall_mem_cons.mpr ⟨Y.i List.mem_cons_self, Y.2.2.2.2.2.2⟩)))
    · cases h
  · cases h
theorem pi_pop (C : pm_C E D cs sc p R s m args meth c me d) (hdg : decode me.2.1 pc = .ok (.pop, len)) (h : pm_ins sc me pc ls st S M len (.pop) = some (.inl q)) (Y : pm_Y E D cs s me S M ls st H locs Ls) (k : pm_k E D cs p l e R s m args below meth c me Q cells slots S q) : W p l e R s m args below meth c H locs cells slots Q (F0 m pc Ls (st.map (pm_v E))) := by
  simp only [pm_ins] at h
  split at h
  · rename_i v t
    split at h
    · rename_i g
      obtain ⟨rfl, g2⟩ := g
      cases pm_nxE h
      exact lv_pop C.1 C.2.1 hdg (by rw [pm_cat, if_neg g2]) (pm_k0 k (Y.stk (fun u hu => Y.i (List.mem_cons_of_mem _ hu))))
    · cases h
  · cases h
theorem pi_dup2 (C : pm_C E D cs sc p R s m args meth c me d) (hdg : decode me.2.1 pc = .ok (.dup2, len)) (h : pm_ins sc me pc ls st S M len (.dup2) = some (.inl q)) (Y : pm_Y E D cs s me S M ls st H locs Ls) (k : pm_k E D cs p l e R s m args below meth c me Q cells slots S q) : W p l e R s m args below meth c H locs cells slots Q (F0 m pc Ls (st.map (pm_v E))) := by
  simp only [pm_ins] at h
  split at h
  · rename_i v u t
    split at h
    · rename_i g
      obtain ⟨rfl, g2, g3⟩ := g
      cases pm_nxE h
      exact lv_dup2_11 C.1 C.2.1 hdg (by rw [pm_cat, if_neg g2]) (by rw [pm_cat, if_neg g3]) (pm_k0 k (Y.stk (List.forall_mem_cons.mpr ⟨Y.i List.mem_cons_self, List.forall_mem_cons.mpr ⟨Y.i (List.mem_cons_of_mem _ List.mem_cons_self), Y.2.2.2.2.2.2⟩⟩)))
    · cases h
  · cases h
theorem pi_goto {off : Int} (C : pm_C E D cs sc p R s m args meth c me d) (hdg : decode me.2.1 pc = .ok (.goto off, len)) (h : pm_ins sc me pc ls st S M len (.goto off) = some (.inl q)) (Y : pm_Y E D cs s me S M ls st H locs Ls) (k : pm_k E D cs p l e R s m args below meth c me Q cells slots S q) : W p l e R s m args below meth c H locs cells slots Q (F0 m pc Ls (st.map (pm_v E))) := by
  simp only [pm_ins] at h
  split at h
  · rename_i g
    subst g
    obtain ⟨tg, ht, h⟩ := pm_jmpS h
    cases pm_nxE h
    exact lv_goto C.1 C.2.1 hdg ht (pm_k0 k Y)
  · cases h
theorem pm_cndS {kd : Jvm.ClassFile.Cond} {a b : Int} {tg nx : Nat} {F : Nat → Prop} {P : Prop} (hp : pm_cnd kd a b = true ↔ P) (k : F (if pm_cnd kd a b = true then tg else nx)) : (P → F tg) ∧ (¬ P → F nx) := by
  by_cases h : pm_cnd kd a b = true
  · rw [if_pos h] at k
    exact ⟨fun _ => k, fun q => absurd (hp.mp h) q⟩
  · rw [if_neg h] at k
    exact ⟨fun q => absurd (hp.mpr q) h, fun _ => k⟩
theorem pi_ifCond {kd : Jvm.ClassFile.Cond} {off : Int} (C : pm_C E D cs sc p R s m args meth c me d) (hdg : decode me.2.1 pc = .ok (.ifCond kd off, len)) (h : pm_ins sc me pc ls st S M len (.ifCond kd off) = some (.inl q)) (Y : pm_Y E D cs s me S M ls st H locs Ls) (k : pm_k E D cs p l e R s m args below meth c me Q cells slots S q) : W p l e R s m args below meth c H locs cells slots Q (F0 m pc Ls (st.map (pm_v E))) := by
  simp only [pm_ins] at h
  split at h
  · rename_i a t
    split at h
    · rename_i g
      subst g
      obtain ⟨tg, ht, h⟩ := pm_jmpS h
      cases pm_nxE h
      have ha : -2147483648 ≤ a ∧ a < 2147483648 := (Y.i List.mem_cons_self).1 rfl
      have k1 := pm_k0 k (Y.stk (fun u hu => Y.i (List.mem_cons_of_mem _ hu)))
      show W p l e R s m args below meth c H locs cells slots Q (F0 m pc Ls (.int (Int32.ofInt a) :: t.map (pm_v E)))
      cases kd with
      | eq =>
        have hp : pm_cnd .eq a 0 = true ↔ (Int32.ofInt a = 0) := by
          rw [show ((Int32.ofInt a = 0) ↔ _) from pm_eq ha (by omega : -2147483648 ≤ (0 : Int) ∧ (0 : Int) < 2147483648)]
          simp [pm_cnd]
        have kk := pm_cndS (F := fun z => W p l e R s m args below meth c H locs cells slots Q (F0 m z Ls (t.map (pm_v E)))) hp k1
        exact lv_if_eq C.1 C.2.1 hdg ht (fun e => kk.1 e) (fun e => kk.2 e)
      | ne =>
        have hp : pm_cnd .ne a 0 = true ↔ (¬ Int32.ofInt a = 0) := by
          rw [show ((¬ Int32.ofInt a = 0) ↔ (¬ a = 0)) from not_congr (pm_eq ha (by omega : -2147483648 ≤ (0 : Int) ∧ (0 : Int) < 2147483648))]
          simp [pm_cnd]
        have kk := pm_cndS (F := fun z => W p l e R s m args below meth c H locs cells slots Q (F0 m z Ls (t.map (pm_v E)))) hp k1
        exact lv_if_ne C.1 C.2.1 hdg ht (fun e => kk.1 e) (fun e => kk.2 (fun z => z e))
      | lt =>
        have hp : pm_cnd .lt a 0 = true ↔ (Int32.ofInt a < 0) := by
          rw [show ((Int32.ofInt a < 0) ↔ _) from pm_lt ha (by omega : -2147483648 ≤ (0 : Int) ∧ (0 : Int) < 2147483648)]
          simp [pm_cnd]
        have kk := pm_cndS (F := fun z => W p l e R s m args below meth c H locs cells slots Q (F0 m z Ls (t.map (pm_v E)))) hp k1
        exact lv_if_lt C.1 C.2.1 hdg ht (fun e => kk.1 e) (fun e => kk.2 e)
      | ge =>
        have hp : pm_cnd .ge a 0 = true ↔ (0 ≤ Int32.ofInt a) := by
          rw [show ((0 ≤ Int32.ofInt a) ↔ _) from pm_le (by omega : -2147483648 ≤ (0 : Int) ∧ (0 : Int) < 2147483648) ha]
          simp [pm_cnd]
        have kk := pm_cndS (F := fun z => W p l e R s m args below meth c H locs cells slots Q (F0 m z Ls (t.map (pm_v E)))) hp k1
        exact lv_if_ge C.1 C.2.1 hdg ht (fun e => kk.1 e) (fun e => kk.2 e)
      | gt =>
        have hp : pm_cnd .gt a 0 = true ↔ (0 < Int32.ofInt a) := by
          rw [show ((0 < Int32.ofInt a) ↔ _) from pm_lt (by omega : -2147483648 ≤ (0 : Int) ∧ (0 : Int) < 2147483648) ha]
          simp [pm_cnd]
        have kk := pm_cndS (F := fun z => W p l e R s m args below meth c H locs cells slots Q (F0 m z Ls (t.map (pm_v E)))) hp k1
        exact lv_if_gt C.1 C.2.1 hdg ht (fun e => kk.1 e) (fun e => kk.2 e)
      | le =>
        have hp : pm_cnd .le a 0 = true ↔ (Int32.ofInt a ≤ 0) := by
          rw [show ((Int32.ofInt a ≤ 0) ↔ _) from pm_le ha (by omega : -2147483648 ≤ (0 : Int) ∧ (0 : Int) < 2147483648)]
          simp [pm_cnd]
        have kk := pm_cndS (F := fun z => W p l e R s m args below meth c H locs cells slots Q (F0 m z Ls (t.map (pm_v E)))) hp k1
        exact lv_if_le C.1 C.2.1 hdg ht (fun e => kk.1 e) (fun e => kk.2 e)
    · cases h
  · cases h
theorem pi_if_icmp {kd : Jvm.ClassFile.Cond} {off : Int} (C : pm_C E D cs sc p R s m args meth c me d) (hdg : decode me.2.1 pc = .ok (.if_icmp kd off, len)) (h : pm_ins sc me pc ls st S M len (.if_icmp kd off) = some (.inl q)) (Y : pm_Y E D cs s me S M ls st H locs Ls) (k : pm_k E D cs p l e R s m args below meth c me Q cells slots S q) : W p l e R s m args below meth c H locs cells slots Q (F0 m pc Ls (st.map (pm_v E))) := by
  simp only [pm_ins] at h
  split at h
  · rename_i b a t
    split at h
    · rename_i g
      subst g
      obtain ⟨tg, ht, h⟩ := pm_jmpS h
      cases pm_nxE h
      have hb : -2147483648 ≤ b ∧ b < 2147483648 := (Y.i List.mem_cons_self).1 rfl
      have ha : -2147483648 ≤ a ∧ a < 2147483648 := (Y.i (List.mem_cons_of_mem _ List.mem_cons_self)).1 rfl
      have k1 := pm_k0 k (Y.stk (fun u hu => Y.i (List.mem_cons_of_mem _ (List.mem_cons_of_mem _ hu))))
      show W p l e R s m args below meth c H locs cells slots Q (F0 m pc Ls (.int (Int32.ofInt b) :: .int (Int32.ofInt a) :: t.map (pm_v E)))
      cases kd with
      | eq =>
        have hp : pm_cnd .eq a b = true ↔ (Int32.ofInt a = Int32.ofInt b) := by
          rw [show ((Int32.ofInt a = Int32.ofInt b) ↔ _) from pm_eq ha hb]
          simp [pm_cnd]
        have kk := pm_cndS (F := fun z => W p l e R s m args below meth c H locs cells slots Q (F0 m z Ls (t.map (pm_v E)))) hp k1
        exact lv_icmp_eq C.1 C.2.1 hdg ht (fun e => kk.1 e) (fun e => kk.2 e)
      | ne =>
        have hp : pm_cnd .ne a b = true ↔ (¬ Int32.ofInt a = Int32.ofInt b) := by
          rw [show ((¬ Int32.ofInt a = Int32.ofInt b) ↔ (¬ a = b)) from not_congr (pm_eq ha hb)]
          simp [pm_cnd]
        have kk := pm_cndS (F := fun z => W p l e R s m args below meth c H locs cells slots Q (F0 m z Ls (t.map (pm_v E)))) hp k1
        exact lv_icmp_ne C.1 C.2.1 hdg ht (fun e => kk.1 e) (fun e => kk.2 (fun z => z e))
      | lt =>
        have hp : pm_cnd .lt a b = true ↔ (Int32.ofInt a < Int32.ofInt b) := by
          rw [show ((Int32.ofInt a < Int32.ofInt b) ↔ _) from pm_lt ha hb]
          simp [pm_cnd]
        have kk := pm_cndS (F := fun z => W p l e R s m args below meth c H locs cells slots Q (F0 m z Ls (t.map (pm_v E)))) hp k1
        exact lv_icmp_lt C.1 C.2.1 hdg ht (fun e => kk.1 e) (fun e => kk.2 e)
      | ge =>
        have hp : pm_cnd .ge a b = true ↔ (Int32.ofInt b ≤ Int32.ofInt a) := by
          rw [show ((Int32.ofInt b ≤ Int32.ofInt a) ↔ _) from pm_le hb ha]
          simp [pm_cnd]
        have kk := pm_cndS (F := fun z => W p l e R s m args below meth c H locs cells slots Q (F0 m z Ls (t.map (pm_v E)))) hp k1
        exact lv_icmp_ge C.1 C.2.1 hdg ht (fun e => kk.1 e) (fun e => kk.2 e)
      | gt =>
        have hp : pm_cnd .gt a b = true ↔ (Int32.ofInt b < Int32.ofInt a) := by
          rw [show ((Int32.ofInt b < Int32.ofInt a) ↔ _) from pm_lt hb ha]
          simp [pm_cnd]
        have kk := pm_cndS (F := fun z => W p l e R s m args below meth c H locs cells slots Q (F0 m z Ls (t.map (pm_v E)))) hp k1
        exact lv_icmp_gt C.1 C.2.1 hdg ht (fun e => kk.1 e) (fun e => kk.2 e)
      | le =>
        have hp : pm_cnd .le a b = true ↔ (Int32.ofInt a ≤ Int32.ofInt b) := by
          rw [show ((Int32.ofInt a ≤ Int32.ofInt b) ↔ _) from pm_le ha hb]
          simp [pm_cnd]
        have kk := pm_cndS (F := fun z => W p l e R s m args below meth c H locs cells slots Q (F0 m z Ls (t.map (pm_v E)))) hp k1
        exact lv_icmp_le C.1 C.2.1 hdg ht (fun e => kk.1 e) (fun e => kk.2 e)
    · cases h
  · cases h
theorem pi_tableswitch {dflt lo hi : Int} {offs : Array Int} (C : pm_C E D cs sc p R s m args meth c me d) (hdg : decode me.2.1 pc = .ok (.tableswitch dflt lo hi offs, len)) (h : pm_ins sc me pc ls st S M len (.tableswitch dflt lo hi offs) = some (.inl q)) (Y : pm_Y E D cs s me S M ls st H locs Ls) (k : pm_k E D cs p l e R s m args below meth c me Q cells slots S q) : W p l e R s m args below meth c H locs cells slots Q (F0 m pc Ls (st.map (pm_v E))) := by
  simp only [pm_ins] at h
  split at h
  · rename_i a t
    obtain ⟨tg, ht, h⟩ := pm_jmpS h
    split at h
    · rename_i g
      cases pm_nxE h
      have ha : -2147483648 ≤ a ∧ a < 2147483648 := (Y.i List.mem_cons_self).1 rfl
      have k1 := pm_k0 k (Y.stk (fun u hu => Y.i (List.mem_cons_of_mem _ hu)))
      show W p l e R s m args below meth c H locs cells slots Q (F0 m pc Ls (.int (Int32.ofInt a) :: t.map (pm_v E)))
      by_cases hq : a < lo ∨ hi < a
      · rw [if_pos hq] at ht
        exact lv_tableOut C.1 C.2.1 hdg (by rw [pm_32id ha]; exact hq) ht k1
      · rw [if_neg hq] at ht
        have hsz : (a - lo).toNat < offs.size := g.resolve_left hq
        refine lv_tableIn C.1 C.2.1 hdg (by rw [pm_32id ha]; omega) (by rw [pm_32id ha]; omega) (off := offs.toList.getD (a - lo).toNat dflt) ?_ ht k1
        rw [pm_32id ha, List.getD_eq_getElem?_getD, Array.getElem?_toList, Array.getElem?_eq_getElem hsz]
        rfl
    · cases h
  · cases h
theorem pi_lookupswitch {dflt : Int} {ps : Array (Int × Int)} (C : pm_C E D cs sc p R s m args meth c me d) (hdg : decode me.2.1 pc = .ok (.lookupswitch dflt ps, len)) (h : pm_ins sc me pc ls st S M len (.lookupswitch dflt ps) = some (.inl q)) (Y : pm_Y E D cs s me S M ls st H locs Ls) (k : pm_k E D cs p l e R s m args below meth c me Q cells slots S q) : W p l e R s m args below meth c H locs cells slots Q (F0 m pc Ls (st.map (pm_v E))) := by
  simp only [pm_ins] at h
  split at h
  · rename_i a t
    split at h
    · rename_i g
      obtain ⟨tg, ht, h⟩ := pm_jmpS h
      cases pm_nxE h
      have ha : -2147483648 ≤ a ∧ a < 2147483648 := (Y.i List.mem_cons_self).1 rfl
      show W p l e R s m args below meth c H locs cells slots Q (F0 m pc Ls (.int (Int32.ofInt a) :: t.map (pm_v E)))
      exact lv_lookup C.1 C.2.1 hdg g (by rw [pm_32id ha]) ht (pm_k0 k (Y.stk (fun u hu => Y.i (List.mem_cons_of_mem _ hu))))
    · cases h
  · cases h
end PMI

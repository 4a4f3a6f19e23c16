/-! steps at one heap: for a method that makes a row of its own -/
def FbX (sc : Nat × (Nat → Int)) (d : Nat) (me : pm_Me) (pc : Nat) (ls st : List pm_V) (S : pm_S) (N : pm_M) (Q : Option pm_V → pm_S → pm_M → Prop) : Prop := ∃ (n : Nat) (r : Option pm_V) (S' : pm_S) (N' : pm_M), pm_X sc n d me pc ls st S N = some (r, S', N') ∧ Q r S' N'
section PMB
variable {sc : Nat × (Nat → Int)} {d : Nat} {me : pm_Me} {pc : Nat} {ls st : List pm_V} {S : pm_S} {N : pm_M} {Q : Option pm_V → pm_S → pm_M → Prop}
theorem fb_st {pc' : Nat} {ls' st' : List pm_V} {S1 : pm_S} {N1 : pm_M} (h : pm_step sc me pc ls st S N = some (.inl (pc', ls', st', S1, N1))) (k : FbX sc d me pc' ls' st' S1 N1 Q) : FbX sc d me pc ls st S N Q := by
  obtain ⟨n, r, S', N', e, q⟩ := k
  refine ⟨n + 1, r, S', N', ?_, q⟩
  unfold pm_X
  rw [h]
  exact e
theorem fb_iret {x : Int} (hd : decode me.2.1 pc = .ok (.ireturn, 1)) (hr : me.2.2.2.2.1 = 0 ∨ (me.2.2.2.2.1 = 5 ∧ (x = 0 ∨ x = 1)) ∨ (me.2.2.2.2.1 = 7 ∧ 0 ≤ x ∧ x < 65536) ∨ (me.2.2.2.2.1 = 8 ∧ -128 ≤ x ∧ x < 128)) (hQ : Q (some (0, x)) S N) : FbX sc d me pc ls [(0, x)] S N Q := by
  have h : pm_step sc me pc ls [(0, x)] S N = some (.inr (.inr (some (0, x)))) := by
    simp only [pm_step, hd, pm_ins]; rw [if_pos ⟨by trivial, hr⟩]
  refine ⟨1, some (0, x), S, N, ?_, hQ⟩
  unfold pm_X
  rw [h]
  rfl
theorem fb_cl {me' : pm_Me} {as rest : List pm_V} {Q1 : Option pm_V → pm_S → pm_M → Prop} (hd : 20 ≤ d) (h : pm_step sc me pc ls st S N = some (.inr (.inl (me', as, rest, none)))) (hlen : (pm_ent me'.2.2.2.1 as).length = me'.2.2.2.1) (hR : FbX sc (d - 1) me' 0 (pm_ent me'.2.2.2.1 as) [] S N Q1) (h7 : ∀ r S1 N1, Q1 r S1 N1 → r.map Prod.fst ≠ some 7) (k : ∀ r S1 N1, Q1 r S1 N1 → FbX sc d me (pc + 3) ls (r.toList ++ rest) S1 N1 Q) : FbX sc d me pc ls st S N Q := by
  obtain ⟨n1, r1, S1, N1, e1, hF⟩ := hR
  obtain ⟨n2, r2, S2, N2, f1, f2⟩ := k r1 S1 N1 hF
  refine ⟨(n1 + n2) + 1, r2, S2, N2, ?_, f2⟩
  unfold pm_X
  rw [h]
  simp only []
  have hnd : ¬ (d < 20 ∨ (pm_ent me'.2.2.2.1 as).length ≠ me'.2.2.2.1) := by
    rintro (h1 | h1)
    · omega
    · exact h1 hlen
  rw [if_neg hnd]
  have g1 := pm_X_fuel _ _ _ _ _ _ _ _ _ e1 n2
  have g2 := pm_X_fuel _ _ _ _ _ _ _ _ _ f1 n1
  rw [Nat.add_comm] at g2
  simp only [Option.isSome_none, Bool.false_eq_true, if_false, g1]
  rw [if_neg (h7 _ _ _ hF)]
  exact g2
theorem fb_iconst {x : Int} (hd : decode me.2.1 pc = .ok (.iconst x, 1)) (hx : -1 ≤ x ∧ x ≤ 5) (k : FbX sc d me (pc + 1) ls ((0, x) :: st) S N Q) : FbX sc d me pc ls (st) S N Q :=
  fb_st (by simp only [pm_step, hd, pm_ins, pm_nx]; rw [if_pos ⟨by trivial, hx.1, hx.2⟩]) k
theorem fb_bipush {x : Int} (hd : decode me.2.1 pc = .ok (.bipush x, 2)) (hx : -128 ≤ x ∧ x ≤ 127) (k : FbX sc d me (pc + 2) ls ((0, x) :: st) S N Q) : FbX sc d me pc ls (st) S N Q :=
  fb_st (by simp only [pm_step, hd, pm_ins, pm_nx]; rw [if_pos ⟨by trivial, hx.1, hx.2⟩]) k
theorem fb_sipush {x : Int} (hd : decode me.2.1 pc = .ok (.sipush x, 3)) (hx : -32768 ≤ x ∧ x ≤ 32767) (k : FbX sc d me (pc + 3) ls ((0, x) :: st) S N Q) : FbX sc d me pc ls (st) S N Q :=
  fb_st (by simp only [pm_step, hd, pm_ins, pm_nx]; rw [if_pos ⟨by trivial, hx.1, hx.2⟩]) k
theorem fb_iload {x : Nat} {v : pm_V} (hd : decode me.2.1 pc = .ok (.iload x, 2)) (hl : ls[x]? = some v) (ho : pm_isI v = true) (k : FbX sc d me (pc + 2) ls (v :: st) S N Q) : FbX sc d me pc ls (st) S N Q :=
  fb_st (by simp only [pm_step, hd, pm_ins, pm_ld, hl, ho, pm_nx, if_true]) k
theorem fb_iload_n {x : Fin 4} {v : pm_V} (hd : decode me.2.1 pc = .ok (.iload_n x, 1)) (hl : ls[x.val]? = some v) (ho : pm_isI v = true) (k : FbX sc d me (pc + 1) ls (v :: st) S N Q) : FbX sc d me pc ls (st) S N Q :=
  fb_st (by simp only [pm_step, hd, pm_ins, pm_ld, hl, ho, pm_nx, if_true]) k
theorem fb_aload {x : Nat} {v : pm_V} (hd : decode me.2.1 pc = .ok (.aload x, 2)) (hl : ls[x]? = some v) (ho : pm_isA v = true) (k : FbX sc d me (pc + 2) ls (v :: st) S N Q) : FbX sc d me pc ls (st) S N Q :=
  fb_st (by simp only [pm_step, hd, pm_ins, pm_ld, hl, ho, pm_nx, if_true]) k
theorem fb_aload_n {x : Fin 4} {v : pm_V} (hd : decode me.2.1 pc = .ok (.aload_n x, 1)) (hl : ls[x.val]? = some v) (ho : pm_isA v = true) (k : FbX sc d me (pc + 1) ls (v :: st) S N Q) : FbX sc d me pc ls (st) S N Q :=
  fb_st (by simp only [pm_step, hd, pm_ins, pm_ld, hl, ho, pm_nx, if_true]) k
theorem fb_istore {x : Nat} {v : pm_V} {ls2 : List pm_V} (hd : decode me.2.1 pc = .ok (.istore x, 2)) (ho : pm_isI v = true) (hi : x < ls.length) (hl : pm_st1 ls x v = ls2) (k : FbX sc d me (pc + 2) ls2 (st) S N Q) : FbX sc d me pc ls (v :: st) S N Q :=
  fb_st (by simp only [pm_step, hd, pm_ins, pm_sto, ho, hi, hl, pm_nx, and_self, if_true]) k
theorem fb_astore {x : Nat} {v : pm_V} {ls2 : List pm_V} (hd : decode me.2.1 pc = .ok (.astore x, 2)) (ho : pm_isA v = true) (hi : x < ls.length) (hl : pm_st1 ls x v = ls2) (k : FbX sc d me (pc + 2) ls2 (st) S N Q) : FbX sc d me pc ls (v :: st) S N Q :=
  fb_st (by simp only [pm_step, hd, pm_ins, pm_sto, ho, hi, hl, pm_nx, and_self, if_true]) k
theorem fb_iinc {x : Nat} {n y z : Int} {ls2 : List pm_V} (hd : decode me.2.1 pc = .ok (.iinc x n, 3)) (hi : x < ls.length) (hg : ls[x]? = some (0, y)) (hz : w32 (y + n) = z) (hl : pm_st1 ls x (0, z) = ls2) (k : FbX sc d me (pc + 3) ls2 (st) S N Q) : FbX sc d me pc ls (st) S N Q :=
  fb_st (by subst hz; simp only [pm_step, hd, pm_ins]; rw [if_pos ⟨by trivial, hi⟩]; simp only [pm_ld, hg, pm_isI, beq_self_eq_true, if_true, hl, pm_nx]) k
theorem fb_iadd {a b z : Int} (hd : decode me.2.1 pc = .ok (.iadd, 1)) (hz : w32 (a + b) = z) (k : FbX sc d me (pc + 1) ls ((0, z) :: st) S N Q) : FbX sc d me pc ls ((0, b) :: (0, a) :: st) S N Q :=
  fb_st (by subst hz; simp only [pm_step, hd, pm_ins, pm_nx, pm_bin, if_true]) k
theorem fb_isub {a b z : Int} (hd : decode me.2.1 pc = .ok (.isub, 1)) (hz : w32 (a - b) = z) (k : FbX sc d me (pc + 1) ls ((0, z) :: st) S N Q) : FbX sc d me pc ls ((0, b) :: (0, a) :: st) S N Q :=
  fb_st (by subst hz; simp only [pm_step, hd, pm_ins, pm_nx, pm_bin, if_true]) k
theorem fb_iand {a b z : Int} (hd : decode me.2.1 pc = .ok (.iand, 1)) (hz : pm_iand a b = z) (k : FbX sc d me (pc + 1) ls ((0, z) :: st) S N Q) : FbX sc d me pc ls ((0, b) :: (0, a) :: st) S N Q :=
  fb_st (by subst hz; simp only [pm_step, hd, pm_ins, pm_nx, pm_bin, if_true]) k
theorem fb_dup {v : pm_V} (hd : decode me.2.1 pc = .ok (.dup, 1)) (hv : v.1 ≠ 1) (k : FbX sc d me (pc + 1) ls (v :: v :: st) S N Q) : FbX sc d me pc ls (v :: st) S N Q :=
  fb_st (by simp only [pm_step, hd, pm_ins, pm_nx]; rw [if_pos ⟨by trivial, hv⟩]) k
theorem fb_goto {off : Int} {tg : Nat} (hd : decode me.2.1 pc = .ok (.goto off, 3)) (ht : (pc : Int) + off = (tg : Int)) (k : FbX sc d me tg ls (st) S N Q) : FbX sc d me pc ls (st) S N Q :=
  fb_st (by simp only [pm_step, hd, pm_ins, pm_jmp, ht, pm_nx, if_true]; rw [if_pos (Int.natCast_nonneg tg), Int.toNat_natCast]) k
theorem fb_ifcT {kd : Jvm.ClassFile.Cond} {off a : Int} {tg : Nat} (hd : decode me.2.1 pc = .ok (.ifCond kd off, 3)) (hc : pm_cnd kd a 0 = true) (ht : (pc : Int) + off = (tg : Int)) (k : FbX sc d me tg ls (st) S N Q) : FbX sc d me pc ls ((0, a) :: st) S N Q :=
  fb_st (by simp only [pm_step, hd, pm_ins, pm_jmp, ht, pm_nx, hc, if_true]; rw [if_pos (Int.natCast_nonneg tg), Int.toNat_natCast]) k
theorem fb_ifcF {kd : Jvm.ClassFile.Cond} {off a : Int} {tg : Nat} (hd : decode me.2.1 pc = .ok (.ifCond kd off, 3)) (hc : pm_cnd kd a 0 = false) (ht : (pc : Int) + off = (tg : Int)) (k : FbX sc d me (pc + 3) ls (st) S N Q) : FbX sc d me pc ls ((0, a) :: st) S N Q :=
  fb_st (by simp only [pm_step, hd, pm_ins, pm_jmp, ht, pm_nx, hc, if_true, Bool.false_eq_true, if_false]; rw [if_pos (Int.natCast_nonneg tg)]) k
theorem fb_icmT {kd : Jvm.ClassFile.Cond} {off a b : Int} {tg : Nat} (hd : decode me.2.1 pc = .ok (.if_icmp kd off, 3)) (hc : pm_cnd kd a b = true) (ht : (pc : Int) + off = (tg : Int)) (k : FbX sc d me tg ls (st) S N Q) : FbX sc d me pc ls ((0, b) :: (0, a) :: st) S N Q :=
  fb_st (by simp only [pm_step, hd, pm_ins, pm_jmp, ht, pm_nx, hc, if_true]; rw [if_pos (Int.natCast_nonneg tg), Int.toNat_natCast]) k
theorem fb_icmF {kd : Jvm.ClassFile.Cond} {off a b : Int} {tg : Nat} (hd : decode me.2.1 pc = .ok (.if_icmp kd off, 3)) (hc : pm_cnd kd a b = false) (ht : (pc : Int) + off = (tg : Int)) (k : FbX sc d me (pc + 3) ls (st) S N Q) : FbX sc d me pc ls ((0, b) :: (0, a) :: st) S N Q :=
  fb_st (by simp only [pm_step, hd, pm_ins, pm_jmp, ht, pm_nx, hc, if_true, Bool.false_eq_true, if_false]; rw [if_pos (Int.natCast_nonneg tg)]) k
theorem fb_getf {M : pm_M} {j a ci n kf : Nat} {x i v : Int} {t : Nat} (hS : pm_LS S) (hN : pm_Ag M N) (hd : decode me.2.1 pc = .ok (.getfield j, 3)) (hx : x = (a : Int)) (hf : pm_fld me.2.2.1 j = some (ci, kf)) (hk : i.toNat = kf) (hs : pm_S0[a]? = some (ci, n)) (h2 : pm_ft ci kf = t) (hv : gI M a i = v) (k : FbX sc d me (pc + 3) ls ((t, v) :: st) S N Q) : FbX sc d me pc ls ((2, x) :: st) S N Q :=
  fb_st (by
    subst hx; subst hk; subst hv; subst h2
    have e2 : N a i.toNat = gI M a i := hN.g hs i
    simp only [pm_step, hd, pm_ins, pm_nx, hf, Int.toNat_natCast, hS.fs hs, e2, if_true]
    rw [if_pos ⟨by trivial, Int.natCast_nonneg a⟩]) k
theorem fb_getr {M : pm_M} {j a ci n kf : Nat} {x v : Int} (hS : pm_LS S) (hN : pm_Ag M N) (hl : pm_Ly M) (hd : decode me.2.1 pc = .ok (.getfield j, 3)) (hx : x = (a : Int)) (hf : pm_fld me.2.2.1 j = some (ci, kf)) (hs : pm_S0[a]? = some (ci, n)) (h2 : pm_ft ci kf = 2) (hv : (a, kf, v) ∈ pm_refs) (k : FbX sc d me (pc + 3) ls ((2, v) :: st) S N Q) : FbX sc d me pc ls ((2, x) :: st) S N Q :=
  fb_st (by
    subst hx
    have e2 : N a kf = v := by rw [hN a (pm_S0lt hs)]; exact hl.g hv
    simp only [pm_step, hd, pm_ins, pm_nx, hf, Int.toNat_natCast, hS.fs hs, e2, h2, if_true]
    rw [if_pos ⟨by trivial, Int.natCast_nonneg a⟩]) k
theorem fb_baload {M : pm_M} {a n ck : Nat} {x i v : Int} (hS : pm_LS S) (hN : pm_Ag M N) (hd : decode me.2.1 pc = .ok (.baload, 1)) (hx : x = (a : Int)) (hs : pm_S0[a]? = some (ck, n)) (hi : 0 ≤ i ∧ i < (n : Int)) (hk : ck = 13 ∨ ck = 16) (hv : gI M a i = v) (k : FbX sc d me (pc + 1) ls ((0, v) :: st) S N Q) : FbX sc d me pc ls ((0, i) :: (2, x) :: st) S N Q :=
  fb_st (by
    subst hx; subst hv
    have e2 : N a i.toNat = gI M a i := hN.g hs i
    have e3 : (ck == 13 || ck == 16) = true := by rcases hk with rfl | rfl <;> rfl
    simp only [pm_step, hd, pm_ins, pm_nx, pm_arr, Int.toNat_natCast, hS.at hs, e2, e3, if_true]
    rw [if_pos ⟨Int.natCast_nonneg a, hi.1⟩, if_pos ⟨by trivial, by omega⟩]) k
theorem fb_iaload {a n : Nat} {x i : Int} (hd : decode me.2.1 pc = .ok (.iaload, 1)) (hx : x = (a : Int)) (hs : S[a]? = some (14, n)) (hi : 0 ≤ i ∧ i < (n : Int)) (k : FbX sc d me (pc + 1) ls ((0, N a i.toNat) :: st) S N Q) : FbX sc d me pc ls ((0, i) :: (2, x) :: st) S N Q :=
  fb_st (by
    subst hx
    simp only [pm_step, hd, pm_ins, pm_nx, pm_arr, Int.toNat_natCast, hs, if_true]
    rw [if_pos ⟨Int.natCast_nonneg a, hi.1⟩, if_pos ⟨by trivial, by omega⟩]) k
theorem fb_iastore {a n : Nat} {x i v : Int} (hd : decode me.2.1 pc = .ok (.iastore, 1)) (hx : x = (a : Int)) (hs : S[a]? = some (14, n)) (hi : 0 ≤ i ∧ i < (n : Int)) (k : FbX sc d me (pc + 1) ls (st) S (pm_up N a i.toNat v) Q) : FbX sc d me pc ls ((0, v) :: (0, i) :: (2, x) :: st) S N Q :=
  fb_st (by
    subst hx
    simp only [pm_step, hd, pm_ins, pm_nx, pm_arr, Int.toNat_natCast, hs, if_true]
    rw [if_pos ⟨Int.natCast_nonneg a, hi.1⟩, if_pos ⟨by trivial, by omega⟩]) k
theorem fb_newi {n : Int} (hd : decode me.2.1 pc = .ok (.newarray .int, 2)) (hn : 0 ≤ n ∧ n < 1000000) (k : FbX sc d me (pc + 2) ls ((2, (S.length : Int)) :: st) (S ++ [(14, n.toNat)]) (pm_nw N S.length (fun _ => 0)) Q) : FbX sc d me pc ls ((0, n) :: st) S N Q :=
  fb_st (by
    simp only [pm_step, hd, pm_ins, pm_nx]
    rw [if_pos ⟨by trivial, hn.1, hn.2⟩]) k
theorem fb_inVI {j a n : Nat} {me' : pm_Me} {x : Int} {as rest ls' : List pm_V} {Q1 : Option pm_V → pm_S → pm_M → Prop} (hS : pm_LS S) (hd : decode me.2.1 pc = .ok (.invokevirtual j, 3)) (hl : pm_lnk me.2.2.1 j = some me') (hh : me'.2.2.2.2.2.2 = 1) (hn : (me'.2.2.2.2.2.1 + 1) ≤ st.length ∧ (st.drop (me'.2.2.2.2.2.1 + 1)).length ≤ 4) (ha : (st.take (me'.2.2.2.2.2.1 + 1)).reverse = (2, x) :: as) (hr : st.drop (me'.2.2.2.2.2.1 + 1) = rest) (hx : x = (a : Int)) (hs : pm_S0[a]? = some (me'.2.2.1, n)) (h13 : me'.2.2.1 < 13) (h20 : 20 ≤ d) (he : pm_ent me'.2.2.2.1 ((2, x) :: as) = ls') (hlen : ls'.length = me'.2.2.2.1) (hR : FbX sc (d - 1) me' 0 ls' [] S N Q1) (h7 : ∀ r S1 N1, Q1 r S1 N1 → r.map Prod.fst ≠ some 7) (k : ∀ r S1 N1, Q1 r S1 N1 → FbX sc d me (pc + 3) ls (r.toList ++ rest) S1 N1 Q) : FbX sc d me pc ls st S N Q :=
  fb_cl (as := (2, x) :: as) (rest := rest) (Q1 := Q1) h20 (by
    subst hr; subst hx
    simp only [pm_step, hd, pm_ins, hl, pm_inv, hh, if_true, beq_self_eq_true, ha, Int.toNat_natCast, hS.fs hs]
    rw [if_pos hn, if_pos ⟨Int.natCast_nonneg a, h13, by trivial⟩])
    (by rw [he]; exact hlen) (by rw [he]; exact hR) h7 k
end PMB
/-- a byte of the text, at one heap -/
theorem fb_byteAt {sc : Nat × (Nat → Int)} {d : Nat} {L : Int → Int} {n p : Int} {M : pm_M} {S : pm_S} {N : pm_M} (hl : pm_Ly M) (hS : pm_LS S) (hN : pm_Ag M N) (hT : TpR L n M) (hp : 0 ≤ p ∧ p < n) : FbX sc d mX12_byteAt 0 [(2, 142), (0, p)] [] S N (fun r S1 N1 => r = some (0, ub L p) ∧ S1 = S ∧ N1 = N) := by
  obtain ⟨t1, ⟨n0, n6⟩, t3⟩ := hT
  refine fb_iload_n (pc := 0) dX12_byteAt_0 rfl rfl ?_
  refine fb_aload_n (pc := 1) dX12_byteAt_1 rfl rfl ?_
  refine fb_getf hS hN (a := 142) (i := 3) (pc := 2) dX12_byteAt_2 rfl pf_12_131 rfl s0_142 rfl t1 ?_
  refine fb_icmF (tg := 21) (pc := 5) dX12_byteAt_5 (decide_eq_false (by omega)) rfl ?_
  refine fb_aload_n (pc := 8) dX12_byteAt_8 rfl rfl ?_
  refine fb_getr hS hN hl (a := 142) (pc := 9) dX12_byteAt_9 rfl pf_12_7 s0_142 rfl rf_142_1 ?_
  refine fb_iload_n (pc := 12) dX12_byteAt_12 rfl rfl ?_
  refine fb_baload hS hN (a := 143) (n := 600) (ck := 13) (pc := 13) dX12_byteAt_13 rfl rfl ⟨hp.1, by omega⟩ (Or.inl rfl) (t3 p hp.1 (by omega)).1 ?_
  refine fb_sipush (pc := 14) dX12_byteAt_14 (by decide) ?_
  refine fb_iand (pc := 17) dX12_byteAt_17 rfl ?_
  refine fb_goto (tg := 22) (pc := 18) dX12_byteAt_18 rfl ?_
  exact fb_iret (pc := 22) dX12_byteAt_22 (Or.inl rfl) ⟨rfl, rfl, rfl⟩

/-! the constructors: from nothing to the first step of the loop -/
def pm_mna (N : pm_M) (k : Nat) : pm_M := fun b i => if b < k then N b i else if b = k then (k : Int) + 1 + i else 0
theorem zs_len : pm_S0.length = 178 := by rfl
theorem zs_take {k : Nat} {q : Nat × Nat} (h : pm_S0[k]? = some q) : pm_S0.take k ++ [q] = pm_S0.take (k + 1) := by rw [List.take_add_one, h]; rfl
theorem zs_tl {k : Nat} {q : Nat × Nat} (h : pm_S0[k]? = some q) : (pm_S0.take k).length = k := by
  have := pm_S0lt h
  rw [List.length_take, zs_len]; omega
theorem zt {k a : Nat} {q : Nat × Nat} (h : pm_S0[a]? = some q) (hk : a < k) : (pm_S0.take k)[a]? = some q := by rw [List.getElem?_take_of_lt hk]; exact h
section PMZ
variable {sc : Nat × (Nat → Int)} {d : Nat} {me : pm_Me} {pc : Nat} {ls st : List pm_V} {S : pm_S} {N : pm_M} {Q : Option pm_V → pm_S → pm_M → Prop}
theorem fb_vret (hd : decode me.2.1 pc = .ok (.return_, 1)) (hr : me.2.2.2.2.1 = 6) (hQ : Q none S N) : FbX sc d me pc ls [] S N Q := by
  have h : pm_step sc me pc ls [] S N = some (.inr (.inr none)) := by
    simp only [pm_step, hd, pm_ins]; rw [if_pos ⟨by trivial, by trivial, hr⟩]
  refine ⟨1, none, S, N, ?_, hQ⟩
  unfold pm_X
  rw [h]
theorem fb_astore_n {x : Fin 4} {v : pm_V} {ls2 : List pm_V} (hd : decode me.2.1 pc = .ok (.astore_n x, 1)) (ho : pm_isA v = true) (hi : x.val < ls.length) (hl : pm_st1 ls x.val v = ls2) (k : FbX sc d me (pc + 1) ls2 (st) S N Q) : FbX sc d me pc ls (v :: st) S N Q :=
  fb_st (by simp only [pm_step, hd, pm_ins, pm_sto, ho, hi, hl, pm_nx, and_self, if_true]) k
theorem fb_gtf {j a ci n kf t : Nat} {x v : Int} (hd : decode me.2.1 pc = .ok (.getfield j, 3)) (hx : x = (a : Int)) (hf : pm_fld me.2.2.1 j = some (ci, kf)) (hs : S[a]? = some (ci, n)) (h2 : pm_ft ci kf = t) (hv : N a kf = v) (k : FbX sc d me (pc + 3) ls ((t, v) :: st) S N Q) : FbX sc d me pc ls ((2, x) :: st) S N Q :=
  fb_st (by
    subst hx; subst hv; subst h2
    have e3 : (S[a]?).map Prod.fst = some ci := by rw [hs]; rfl
    simp only [pm_step, hd, pm_ins, pm_nx, hf, Int.toNat_natCast, e3, if_true]
    rw [if_pos ⟨by trivial, Int.natCast_nonneg a⟩]) k
theorem fb_putf {j a ci n kf tv : Nat} {x y : Int} (hd : decode me.2.1 pc = .ok (.putfield j, 3)) (hx : x = (a : Int)) (hf : pm_fld me.2.2.1 j = some (ci, kf)) (hs : S[a]? = some (ci, n)) (ho : pm_okF ci kf (tv, y) = true) (hF : (pm_T ci kf).2.2.2 = true → (me.2.2.2.2.2.2 = 2 ∨ me.2.2.2.2.2.2 = 12) ∧ me.2.2.1 = ci) (k : FbX sc d me (pc + 3) ls st S (pm_up N a kf y) Q) : FbX sc d me pc ls ((tv, y) :: (2, x) :: st) S N Q :=
  fb_st (by
    subst hx
    have e3 : (S[a]?).map Prod.fst = some ci := by rw [hs]; rfl
    simp only [pm_step, hd, pm_ins, pm_nx, hf, Int.toNat_natCast]
    rw [if_pos ⟨by trivial, Int.natCast_nonneg a⟩, if_pos ⟨e3, ho, hF⟩]) k
theorem fb_new {j c k k1 : Nat} {x : Int} (hd : decode me.2.1 pc = .ok (.new j, 3)) (hc : pm_cl me.2.2.1 j = some c) (hk : pm_S0[k]? = some (c, pm_N c)) (hx : (k : Int) = x) (h1 : k + 1 = k1) (kk : FbX sc d me (pc + 3) ls ((2, x) :: st) (pm_S0.take k1) (pm_nw N k (pm_dfl c)) Q) : FbX sc d me pc ls st (pm_S0.take k) N Q :=
  fb_st (by
    subst hx; subst h1
    simp only [pm_step, hd, pm_ins, pm_nx, hc, if_true, zs_tl hk, zs_take hk]) kk
theorem fb_nab {k k1 : Nat} {n x : Int} (hd : decode me.2.1 pc = .ok (.newarray .byte, 2)) (hk : pm_S0[k]? = some (13, n.toNat)) (hn : 0 ≤ n ∧ n < 1000000) (hx : (k : Int) = x) (h1 : k + 1 = k1) (kk : FbX sc d me (pc + 2) ls ((2, x) :: st) (pm_S0.take k1) (pm_nw N k (fun _ => 0)) Q) : FbX sc d me pc ls ((0, n) :: st) (pm_S0.take k) N Q :=
  fb_st (by
    subst hx; subst h1
    simp only [pm_step, hd, pm_ins, pm_nx, zs_tl hk, zs_take hk]
    rw [if_pos ⟨by trivial, hn.1, hn.2⟩]) kk
theorem fb_nai {k k1 : Nat} {n x : Int} (hd : decode me.2.1 pc = .ok (.newarray .int, 2)) (hk : pm_S0[k]? = some (14, n.toNat)) (hn : 0 ≤ n ∧ n < 1000000) (hx : (k : Int) = x) (h1 : k + 1 = k1) (kk : FbX sc d me (pc + 2) ls ((2, x) :: st) (pm_S0.take k1) (pm_nw N k (fun _ => 0)) Q) : FbX sc d me pc ls ((0, n) :: st) (pm_S0.take k) N Q :=
  fb_st (by
    subst hx; subst h1
    simp only [pm_step, hd, pm_ins, pm_nx, zs_tl hk, zs_take hk]
    rw [if_pos ⟨by trivial, hn.1, hn.2⟩]) kk
theorem fb_nal {k k1 : Nat} {n x : Int} (hd : decode me.2.1 pc = .ok (.newarray .long, 2)) (hk : pm_S0[k]? = some (15, n.toNat)) (hn : 0 ≤ n ∧ n < 1000000) (hx : (k : Int) = x) (h1 : k + 1 = k1) (kk : FbX sc d me (pc + 2) ls ((2, x) :: st) (pm_S0.take k1) (pm_nw N k (fun _ => 0)) Q) : FbX sc d me pc ls ((0, n) :: st) (pm_S0.take k) N Q :=
  fb_st (by
    subst hx; subst h1
    simp only [pm_step, hd, pm_ins, pm_nx, zs_tl hk, zs_take hk]
    rw [if_pos ⟨by trivial, hn.1, hn.2⟩]) kk
theorem fb_nao {k k1 : Nat} {n x : Int} (hd : decode me.2.1 pc = .ok (.newarray .boolean, 2)) (hk : pm_S0[k]? = some (16, n.toNat)) (hn : 0 ≤ n ∧ n < 1000000) (hx : (k : Int) = x) (h1 : k + 1 = k1) (kk : FbX sc d me (pc + 2) ls ((2, x) :: st) (pm_S0.take k1) (pm_nw N k (fun _ => 0)) Q) : FbX sc d me pc ls ((0, n) :: st) (pm_S0.take k) N Q :=
  fb_st (by
    subst hx; subst h1
    simp only [pm_step, hd, pm_ins, pm_nx, zs_tl hk, zs_take hk]
    rw [if_pos ⟨by trivial, hn.1, hn.2⟩]) kk
theorem fb_mna {j k k1 : Nat} {n m x : Int} (hd : decode me.2.1 pc = .ok (.multianewarray j 2, 4)) (hk : pm_S0[k]? = some (17, n.toNat)) (hn : 0 ≤ m ∧ m < 1000000 ∧ 0 ≤ n ∧ n < 1000000 ∧ (pm_grd.find? (fun e => e.1 == me.2.2.1 && e.2.1 == j)).isSome = true) (hS : pm_S0.take k ++ (17, n.toNat) :: List.replicate n.toNat (14, m.toNat) = pm_S0.take k1) (hx : (k : Int) = x) (h1 : k1 = k1) (kk : FbX sc d me (pc + 4) ls ((2, x) :: st) (pm_S0.take k1) (pm_mna N k) Q) : FbX sc d me pc ls ((0, m) :: (0, n) :: st) (pm_S0.take k) N Q :=
  fb_st (by
    subst hx
    simp only [pm_step, hd, pm_ins, pm_nx, zs_tl hk, hS]
    rw [if_pos ⟨by trivial, by trivial, hn⟩]
    rfl) kk
theorem fb_obj {j : Nat} {x : Int} (hd : decode me.2.1 pc = .ok (.invokespecial j, 3)) (hl : pm_lnk me.2.2.1 j = some pm_mObj) (hx : 0 ≤ x) (hr : st.length ≤ 4) (k : FbX sc d me (pc + 3) ls st S N Q) : FbX sc d me pc ls ((2, x) :: st) S N Q :=
  fb_st (by
    simp only [pm_step, hd, pm_ins, hl, if_true]
    show (if 0 ≤ x ∧ st.length ≤ 4 then pm_nx (pc + 3) ls st S N else none) = _
    rw [if_pos ⟨hx, hr⟩]; rfl) k
theorem fb_ini {j a n : Nat} {me' : pm_Me} {x : Int} {as rest ls' : List pm_V} {S2 : pm_S} {N2 : pm_M} (hd : decode me.2.1 pc = .ok (.invokespecial j, 3)) (hl : pm_lnk me.2.2.1 j = some me') (hh : me'.2.2.2.2.2.2 = 2 ∨ me'.2.2.2.2.2.2 = 12) (hn : (me'.2.2.2.2.2.1 + 1) ≤ st.length ∧ (st.drop (me'.2.2.2.2.2.1 + 1)).length ≤ 4) (ha : (st.take (me'.2.2.2.2.2.1 + 1)).reverse = (2, x) :: as) (hr : st.drop (me'.2.2.2.2.2.1 + 1) = rest) (hx : x = (a : Int)) (hs : S[a]? = some (me'.2.2.1, n)) (h13 : me'.2.2.1 < 13) (h20 : 20 ≤ d) (he : pm_ent me'.2.2.2.1 ((2, x) :: as) = ls') (hlen : ls'.length = me'.2.2.2.1) (hR : FbX sc (d - 1) me' 0 ls' [] S N (fun r S1 N1 => r = none ∧ S1 = S2 ∧ N1 = N2)) (k : FbX sc d me (pc + 3) ls rest S2 N2 Q) : FbX sc d me pc ls st S N Q :=
  fb_cl (as := (2, x) :: as) (rest := rest) (Q1 := fun r S1 N1 => r = none ∧ S1 = S2 ∧ N1 = N2) h20 (by
    subst hr; subst hx
    have e3 : (S[a]?).map Prod.fst = some me'.2.2.1 := by rw [hs]; rfl
    rcases hh with hh | hh
    all_goals
      simp only [pm_step, hd, pm_ins, hl, pm_inv, hh, if_true, beq_self_eq_true, Bool.true_or, Bool.or_true, ha, Int.toNat_natCast, e3]
      rw [if_pos hn, if_pos ⟨Int.natCast_nonneg a, h13, by trivial⟩])
    (by rw [he]; exact hlen) (by rw [he]; exact hR) (by rintro r S1 N1 ⟨rfl, -, -⟩; simp) (by rintro r S1 N1 ⟨rfl, rfl, rfl⟩; exact k)
end PMZ
theorem zo_0 : pm_S0[0]? = some (11, 15) := by rfl
theorem zo_2 : pm_S0[2]? = some (0, 19) := by rfl
theorem zo_18 : pm_S0[18]? = some (8, 3) := by rfl
theorem zo_36 : pm_S0[36]? = some (0, 19) := by rfl
theorem zo_52 : pm_S0[52]? = some (8, 3) := by rfl
theorem zo_70 : pm_S0[70]? = some (7, 7) := by rfl
theorem zo_71 : pm_S0[71]? = some (4, 2) := by rfl
theorem zo_72 : pm_S0[72]? = some (9, 2) := by rfl
theorem zo_73 : pm_S0[73]? = some (1, 14) := by rfl
theorem zo_77 : pm_S0[77]? = some (6, 14) := by rfl
theorem zo_117 : pm_S0[117]? = some (5, 7) := by rfl
theorem zo_132 : pm_S0[132]? = some (2, 12) := by rfl
theorem zo_138 : pm_S0[138]? = some (3, 15) := by rfl
theorem zo_141 : pm_S0[141]? = some (10, 8) := by rfl
theorem zo_142 : pm_S0[142]? = some (12, 64) := by rfl
theorem pl_0_3 : pm_lnk 0 3 = some pm_mObj := by rfl
theorem pl_1_3 : pm_lnk 1 3 = some pm_mObj := by rfl
theorem pl_2_3 : pm_lnk 2 3 = some pm_mObj := by rfl
theorem pl_3_3 : pm_lnk 3 3 = some pm_mObj := by rfl
theorem pl_4_3 : pm_lnk 4 3 = some pm_mObj := by rfl
theorem pl_5_3 : pm_lnk 5 3 = some pm_mObj := by rfl
theorem pl_6_3 : pm_lnk 6 3 = some pm_mObj := by rfl
theorem pl_7_3 : pm_lnk 7 3 = some pm_mObj := by rfl
theorem pl_8_3 : pm_lnk 8 3 = some pm_mObj := by rfl
theorem pl_9_3 : pm_lnk 9 3 = some pm_mObj := by rfl
theorem pl_10_3 : pm_lnk 10 3 = some pm_mObj := by rfl
theorem pl_11_3 : pm_lnk 11 3 = some pm_mObj := by rfl
theorem pl_11_15 : pm_lnk 11 15 = some mX0_init := by rfl
theorem pl_11_22 : pm_lnk 11 22 = some mX8_init := by rfl
theorem pl_11_35 : pm_lnk 11 35 = some mX7_init := by rfl
theorem pl_11_40 : pm_lnk 11 40 = some mX4_init := by rfl
theorem pl_11_49 : pm_lnk 11 49 = some mX9_init := by rfl
theorem pl_11_56 : pm_lnk 11 56 = some mX1_init := by rfl
theorem pl_11_65 : pm_lnk 11 65 = some mX6_init := by rfl
theorem pl_11_74 : pm_lnk 11 74 = some mX5_init := by rfl
theorem pl_11_83 : pm_lnk 11 83 = some mX2_init := by rfl
theorem pl_11_92 : pm_lnk 11 92 = some mX3_init := by rfl
theorem pl_11_99 : pm_lnk 11 99 = some mX10_init := by rfl
theorem pl_12_1 : pm_lnk 12 1 = some pm_mObj := by rfl
theorem pl_13_18 : pm_lnk 13 18 = some mX11_init := by rfl
theorem pl_13_21 : pm_lnk 13 21 = some mX12_init := by rfl
theorem pc_11_13 : pm_cl 11 13 = some 0 := by rfl
theorem pc_11_20 : pm_cl 11 20 = some 8 := by rfl
theorem pc_11_33 : pm_cl 11 33 = some 7 := by rfl
theorem pc_11_38 : pm_cl 11 38 = some 4 := by rfl
theorem pc_11_47 : pm_cl 11 47 = some 9 := by rfl
theorem pc_11_54 : pm_cl 11 54 = some 1 := by rfl
theorem pc_11_63 : pm_cl 11 63 = some 6 := by rfl
theorem pc_11_72 : pm_cl 11 72 = some 5 := by rfl
theorem pc_11_81 : pm_cl 11 81 = some 2 := by rfl
theorem pc_11_90 : pm_cl 11 90 = some 3 := by rfl
theorem pc_11_97 : pm_cl 11 97 = some 10 := by rfl
theorem pc_13_8 : pm_cl 13 8 = some 11 := by rfl
theorem pc_13_19 : pm_cl 13 19 = some 12 := by rfl
def z3_f0 (N : pm_M) : pm_M := pm_up (pm_nw (pm_up (pm_nw (pm_up (pm_nw (pm_up (pm_nw (pm_up (pm_nw (pm_up (pm_nw (pm_up (pm_nw (N) 3 (fun _ => 0)) 2 0 3) 4 (fun _ => 0)) 2 1 4) 5 (fun _ => 0)) 2 2 5) 6 (fun _ => 0)) 2 3 6) 7 (fun _ => 0)) 2 4 7) 8 (fun _ => 0)) 2 5 8) 9 (fun _ => 0)) 2 6 9
theorem z3_s0 {sc : Nat × (Nat → Int)} {N : pm_M} {Q : Option pm_V → pm_S → pm_M → Prop} (k : FbX sc 998 mX0_init 60 [(2, 2)] [] (pm_S0.take 10) (z3_f0 N) Q) : FbX sc 998 mX0_init 0 [(2, 2)] [] (pm_S0.take 3) N Q := by
  refine fb_aload_n (pc := 0) dX0_init_0 rfl rfl ?_
  refine fb_obj (pc := 1) dX0_init_1 pl_0_3 (by decide) (by decide) ?_
  refine fb_aload_n (pc := 4) dX0_init_4 rfl rfl ?_
  refine fb_bipush (pc := 5) dX0_init_5 (by decide) ?_
  refine fb_nai (k := 3) (k1 := 4) (x := 3) (pc := 7) dX0_init_7 rfl (by decide) rfl rfl ?_
  refine fb_putf (a := 2) (pc := 9) dX0_init_9 rfl pf_0_9 (zt zo_2 (Nat.le_of_ble_eq_true rfl)) rfl (fun _ => ⟨Or.inr rfl, rfl⟩) ?_
  refine fb_aload_n (pc := 12) dX0_init_12 rfl rfl ?_
  refine fb_bipush (pc := 13) dX0_init_13 (by decide) ?_
  refine fb_nai (k := 4) (k1 := 5) (x := 4) (pc := 15) dX0_init_15 rfl (by decide) rfl rfl ?_
  refine fb_putf (a := 2) (pc := 17) dX0_init_17 rfl pf_0_15 (zt zo_2 (Nat.le_of_ble_eq_true rfl)) rfl (fun _ => ⟨Or.inr rfl, rfl⟩) ?_
  refine fb_aload_n (pc := 20) dX0_init_20 rfl rfl ?_
  refine fb_bipush (pc := 21) dX0_init_21 (by decide) ?_
  refine fb_nai (k := 5) (k1 := 6) (x := 5) (pc := 23) dX0_init_23 rfl (by decide) rfl rfl ?_
  refine fb_putf (a := 2) (pc := 25) dX0_init_25 rfl pf_0_18 (zt zo_2 (Nat.le_of_ble_eq_true rfl)) rfl (fun _ => ⟨Or.inr rfl, rfl⟩) ?_
  refine fb_aload_n (pc := 28) dX0_init_28 rfl rfl ?_
  refine fb_bipush (pc := 29) dX0_init_29 (by decide) ?_
  refine fb_nai (k := 6) (k1 := 7) (x := 6) (pc := 31) dX0_init_31 rfl (by decide) rfl rfl ?_
  refine fb_putf (a := 2) (pc := 33) dX0_init_33 rfl pf_0_21 (zt zo_2 (Nat.le_of_ble_eq_true rfl)) rfl (fun _ => ⟨Or.inr rfl, rfl⟩) ?_
  refine fb_aload_n (pc := 36) dX0_init_36 rfl rfl ?_
  refine fb_bipush (pc := 37) dX0_init_37 (by decide) ?_
  refine fb_nai (k := 7) (k1 := 8) (x := 7) (pc := 39) dX0_init_39 rfl (by decide) rfl rfl ?_
  refine fb_putf (a := 2) (pc := 41) dX0_init_41 rfl pf_0_24 (zt zo_2 (Nat.le_of_ble_eq_true rfl)) rfl (fun _ => ⟨Or.inr rfl, rfl⟩) ?_
  refine fb_aload_n (pc := 44) dX0_init_44 rfl rfl ?_
  refine fb_bipush (pc := 45) dX0_init_45 (by decide) ?_
  refine fb_nai (k := 8) (k1 := 9) (x := 8) (pc := 47) dX0_init_47 rfl (by decide) rfl rfl ?_
  refine fb_putf (a := 2) (pc := 49) dX0_init_49 rfl pf_0_27 (zt zo_2 (Nat.le_of_ble_eq_true rfl)) rfl (fun _ => ⟨Or.inr rfl, rfl⟩) ?_
  refine fb_aload_n (pc := 52) dX0_init_52 rfl rfl ?_
  refine fb_bipush (pc := 53) dX0_init_53 (by decide) ?_
  refine fb_nai (k := 9) (k1 := 10) (x := 9) (pc := 55) dX0_init_55 rfl (by decide) rfl rfl ?_
  refine fb_putf (a := 2) (pc := 57) dX0_init_57 rfl pf_0_30 (zt zo_2 (Nat.le_of_ble_eq_true rfl)) rfl (fun _ => ⟨Or.inr rfl, rfl⟩) ?_
  exact k
def z3_f1 (N : pm_M) : pm_M := pm_up (pm_nw (pm_up (pm_nw (pm_up (pm_nw (pm_up (pm_nw (pm_up (pm_nw (pm_up (pm_nw (pm_up (pm_nw (pm_up (pm_nw (N) 10 (fun _ => 0)) 2 7 10) 11 (fun _ => 0)) 2 8 11) 12 (fun _ => 0)) 2 9 12) 13 (fun _ => 0)) 2 10 13) 14 (fun _ => 0)) 2 11 14) 15 (fun _ => 0)) 2 12 15) 16 (fun _ => 0)) 2 13 16) 17 (fun _ => 0)) 2 14 17
theorem z3_s1 {sc : Nat × (Nat → Int)} {N : pm_M} : FbX sc 998 mX0_init 60 [(2, 2)] [] (pm_S0.take 10) N (fun r S1 N1 => r = none ∧ S1 = pm_S0.take 18 ∧ N1 = z3_f1 N) := by
  refine fb_aload_n (pc := 60) dX0_init_60 rfl rfl ?_
  refine fb_bipush (pc := 61) dX0_init_61 (by decide) ?_
  refine fb_nai (k := 10) (k1 := 11) (x := 10) (pc := 63) dX0_init_63 rfl (by decide) rfl rfl ?_
  refine fb_putf (a := 2) (pc := 65) dX0_init_65 rfl pf_0_33 (zt zo_2 (Nat.le_of_ble_eq_true rfl)) rfl (fun _ => ⟨Or.inr rfl, rfl⟩) ?_
  refine fb_aload_n (pc := 68) dX0_init_68 rfl rfl ?_
  refine fb_bipush (pc := 69) dX0_init_69 (by decide) ?_
  refine fb_nai (k := 11) (k1 := 12) (x := 11) (pc := 71) dX0_init_71 rfl (by decide) rfl rfl ?_
  refine fb_putf (a := 2) (pc := 73) dX0_init_73 rfl pf_0_36 (zt zo_2 (Nat.le_of_ble_eq_true rfl)) rfl (fun _ => ⟨Or.inr rfl, rfl⟩) ?_
  refine fb_aload_n (pc := 76) dX0_init_76 rfl rfl ?_
  refine fb_bipush (pc := 77) dX0_init_77 (by decide) ?_
  refine fb_nai (k := 12) (k1 := 13) (x := 12) (pc := 79) dX0_init_79 rfl (by decide) rfl rfl ?_
  refine fb_putf (a := 2) (pc := 81) dX0_init_81 rfl pf_0_39 (zt zo_2 (Nat.le_of_ble_eq_true rfl)) rfl (fun _ => ⟨Or.inr rfl, rfl⟩) ?_
  refine fb_aload_n (pc := 84) dX0_init_84 rfl rfl ?_
  refine fb_bipush (pc := 85) dX0_init_85 (by decide) ?_
  refine fb_nai (k := 13) (k1 := 14) (x := 13) (pc := 87) dX0_init_87 rfl (by decide) rfl rfl ?_
  refine fb_putf (a := 2) (pc := 89) dX0_init_89 rfl pf_0_42 (zt zo_2 (Nat.le_of_ble_eq_true rfl)) rfl (fun _ => ⟨Or.inr rfl, rfl⟩) ?_
  refine fb_aload_n (pc := 92) dX0_init_92 rfl rfl ?_
  refine fb_bipush (pc := 93) dX0_init_93 (by decide) ?_
  refine fb_nai (k := 14) (k1 := 15) (x := 14) (pc := 95) dX0_init_95 rfl (by decide) rfl rfl ?_
  refine fb_putf (a := 2) (pc := 97) dX0_init_97 rfl pf_0_45 (zt zo_2 (Nat.le_of_ble_eq_true rfl)) rfl (fun _ => ⟨Or.inr rfl, rfl⟩) ?_
  refine fb_aload_n (pc := 100) dX0_init_100 rfl rfl ?_
  refine fb_bipush (pc := 101) dX0_init_101 (by decide) ?_
  refine fb_nai (k := 15) (k1 := 16) (x := 15) (pc := 103) dX0_init_103 rfl (by decide) rfl rfl ?_
  refine fb_putf (a := 2) (pc := 105) dX0_init_105 rfl pf_0_48 (zt zo_2 (Nat.le_of_ble_eq_true rfl)) rfl (fun _ => ⟨Or.inr rfl, rfl⟩) ?_
  refine fb_aload_n (pc := 108) dX0_init_108 rfl rfl ?_
  refine fb_bipush (pc := 109) dX0_init_109 (by decide) ?_
  refine fb_nai (k := 16) (k1 := 17) (x := 16) (pc := 111) dX0_init_111 rfl (by decide) rfl rfl ?_
  refine fb_putf (a := 2) (pc := 113) dX0_init_113 rfl pf_0_51 (zt zo_2 (Nat.le_of_ble_eq_true rfl)) rfl (fun _ => ⟨Or.inr rfl, rfl⟩) ?_
  refine fb_aload_n (pc := 116) dX0_init_116 rfl rfl ?_
  refine fb_bipush (pc := 117) dX0_init_117 (by decide) ?_
  refine fb_nai (k := 17) (k1 := 18) (x := 17) (pc := 119) dX0_init_119 rfl (by decide) rfl rfl ?_
  refine fb_putf (a := 2) (pc := 121) dX0_init_121 rfl pf_0_54 (zt zo_2 (Nat.le_of_ble_eq_true rfl)) rfl (fun _ => ⟨Or.inr rfl, rfl⟩) ?_
  exact fb_vret (pc := 124) dX0_init_124 rfl ⟨rfl, rfl, rfl⟩
def z3_e (N : pm_M) : pm_M := z3_f1 (z3_f0 (N))
theorem z3_all {sc : Nat × (Nat → Int)} {N : pm_M} : FbX sc 998 mX0_init 0 [(2, 2)] [] (pm_S0.take 3) N (fun r S1 N1 => r = none ∧ S1 = pm_S0.take 18 ∧ N1 = z3_e N) :=
  z3_s0 (z3_s1)
def z4_f0 (N : pm_M) : pm_M := pm_up (pm_mna (N) 19) 18 0 19
theorem z4_s0 {sc : Nat × (Nat → Int)} {N : pm_M} : FbX sc 998 mX8_init 0 [(2, 18)] [] (pm_S0.take 19) N (fun r S1 N1 => r = none ∧ S1 = pm_S0.take 36 ∧ N1 = z4_f0 N) := by
  refine fb_aload_n (pc := 0) dX8_init_0 rfl rfl ?_
  refine fb_obj (pc := 1) dX8_init_1 pl_8_3 (by decide) (by decide) ?_
  refine fb_aload_n (pc := 4) dX8_init_4 rfl rfl ?_
  refine fb_bipush (pc := 5) dX8_init_5 (by decide) ?_
  refine fb_iconst (pc := 7) dX8_init_7 (by decide) ?_
  refine fb_mna (k := 19) (k1 := 36) (x := 19) (pc := 8) dX8_init_8 rfl (by decide) (by decide +kernel) rfl rfl ?_
  refine fb_putf (a := 18) (pc := 12) dX8_init_12 rfl pf_8_13 (zt zo_18 (Nat.le_of_ble_eq_true rfl)) rfl (fun _ => ⟨Or.inr rfl, rfl⟩) ?_
  exact fb_vret (pc := 15) dX8_init_15 rfl ⟨rfl, rfl, rfl⟩
def z4_e (N : pm_M) : pm_M := z4_f0 (N)
theorem z4_all {sc : Nat × (Nat → Int)} {N : pm_M} : FbX sc 998 mX8_init 0 [(2, 18)] [] (pm_S0.take 19) N (fun r S1 N1 => r = none ∧ S1 = pm_S0.take 36 ∧ N1 = z4_e N) :=
  z4_s0
def z5_f0 (N : pm_M) : pm_M := pm_up (pm_nw (pm_up (pm_nw (pm_up (pm_nw (pm_up (pm_nw (pm_up (pm_nw (pm_up (pm_nw (pm_up (pm_nw (N) 37 (fun _ => 0)) 36 0 37) 38 (fun _ => 0)) 36 1 38) 39 (fun _ => 0)) 36 2 39) 40 (fun _ => 0)) 36 3 40) 41 (fun _ => 0)) 36 4 41) 42 (fun _ => 0)) 36 5 42) 43 (fun _ => 0)) 36 6 43
theorem z5_s0 {sc : Nat × (Nat → Int)} {N : pm_M} {Q : Option pm_V → pm_S → pm_M → Prop} (k : FbX sc 998 mX0_init 60 [(2, 36)] [] (pm_S0.take 44) (z5_f0 N) Q) : FbX sc 998 mX0_init 0 [(2, 36)] [] (pm_S0.take 37) N Q := by
  refine fb_aload_n (pc := 0) dX0_init_0 rfl rfl ?_
  refine fb_obj (pc := 1) dX0_init_1 pl_0_3 (by decide) (by decide) ?_
  refine fb_aload_n (pc := 4) dX0_init_4 rfl rfl ?_
  refine fb_bipush (pc := 5) dX0_init_5 (by decide) ?_
  refine fb_nai (k := 37) (k1 := 38) (x := 37) (pc := 7) dX0_init_7 rfl (by decide) rfl rfl ?_
  refine fb_putf (a := 36) (pc := 9) dX0_init_9 rfl pf_0_9 (zt zo_36 (Nat.le_of_ble_eq_true rfl)) rfl (fun _ => ⟨Or.inr rfl, rfl⟩) ?_
  refine fb_aload_n (pc := 12) dX0_init_12 rfl rfl ?_
  refine fb_bipush (pc := 13) dX0_init_13 (by decide) ?_
  refine fb_nai (k := 38) (k1 := 39) (x := 38) (pc := 15) dX0_init_15 rfl (by decide) rfl rfl ?_
  refine fb_putf (a := 36) (pc := 17) dX0_init_17 rfl pf_0_15 (zt zo_36 (Nat.le_of_ble_eq_true rfl)) rfl (fun _ => ⟨Or.inr rfl, rfl⟩) ?_
  refine fb_aload_n (pc := 20) dX0_init_20 rfl rfl ?_
  refine fb_bipush (pc := 21) dX0_init_21 (by decide) ?_
  refine fb_nai (k := 39) (k1 := 40) (x := 39) (pc := 23) dX0_init_23 rfl (by decide) rfl rfl ?_
  refine fb_putf (a := 36) (pc := 25) dX0_init_25 rfl pf_0_18 (zt zo_36 (Nat.le_of_ble_eq_true rfl)) rfl (fun _ => ⟨Or.inr rfl, rfl⟩) ?_
  refine fb_aload_n (pc := 28) dX0_init_28 rfl rfl ?_
  refine fb_bipush (pc := 29) dX0_init_29 (by decide) ?_
  refine fb_nai (k := 40) (k1 := 41) (x := 40) (pc := 31) dX0_init_31 rfl (by decide) rfl rfl ?_
  refine fb_putf (a := 36) (pc := 33) dX0_init_33 rfl pf_0_21 (zt zo_36 (Nat.le_of_ble_eq_true rfl)) rfl (fun _ => ⟨Or.inr rfl, rfl⟩) ?_
  refine fb_aload_n (pc := 36) dX0_init_36 rfl rfl ?_
  refine fb_bipush (pc := 37) dX0_init_37 (by decide) ?_
  refine fb_nai (k := 41) (k1 := 42) (x := 41) (pc := 39) dX0_init_39 rfl (by decide) rfl rfl ?_
  refine fb_putf (a := 36) (pc := 41) dX0_init_41 rfl pf_0_24 (zt zo_36 (Nat.le_of_ble_eq_true rfl)) rfl (fun _ => ⟨Or.inr rfl, rfl⟩) ?_
  refine fb_aload_n (pc := 44) dX0_init_44 rfl rfl ?_
  refine fb_bipush (pc := 45) dX0_init_45 (by decide) ?_
  refine fb_nai (k := 42) (k1 := 43) (x := 42) (pc := 47) dX0_init_47 rfl (by decide) rfl rfl ?_
  refine fb_putf (a := 36) (pc := 49) dX0_init_49 rfl pf_0_27 (zt zo_36 (Nat.le_of_ble_eq_true rfl)) rfl (fun _ => ⟨Or.inr rfl, rfl⟩) ?_
  refine fb_aload_n (pc := 52) dX0_init_52 rfl rfl ?_
  refine fb_bipush (pc := 53) dX0_init_53 (by decide) ?_
  refine fb_nai (k := 43) (k1 := 44) (x := 43) (pc := 55) dX0_init_55 rfl (by decide) rfl rfl ?_
  refine fb_putf (a := 36) (pc := 57) dX0_init_57 rfl pf_0_30 (zt zo_36 (Nat.le_of_ble_eq_true rfl)) rfl (fun _ => ⟨Or.inr rfl, rfl⟩) ?_
  exact k
def z5_f1 (N : pm_M) : pm_M := pm_up (pm_nw (pm_up (pm_nw (pm_up (pm_nw (pm_up (pm_nw (pm_up (pm_nw (pm_up (pm_nw (pm_up (pm_nw (pm_up (pm_nw (N) 44 (fun _ => 0)) 36 7 44) 45 (fun _ => 0)) 36 8 45) 46 (fun _ => 0)) 36 9 46) 47 (fun _ => 0)) 36 10 47) 48 (fun _ => 0)) 36 11 48) 49 (fun _ => 0)) 36 12 49) 50 (fun _ => 0)) 36 13 50) 51 (fun _ => 0)) 36 14 51
theorem z5_s1 {sc : Nat × (Nat → Int)} {N : pm_M} : FbX sc 998 mX0_init 60 [(2, 36)] [] (pm_S0.take 44) N (fun r S1 N1 => r = none ∧ S1 = pm_S0.take 52 ∧ N1 = z5_f1 N) := by
  refine fb_aload_n (pc := 60) dX0_init_60 rfl rfl ?_
  refine fb_bipush (pc := 61) dX0_init_61 (by decide) ?_
  refine fb_nai (k := 44) (k1 := 45) (x := 44) (pc := 63) dX0_init_63 rfl (by decide) rfl rfl ?_
  refine fb_putf (a := 36) (pc := 65) dX0_init_65 rfl pf_0_33 (zt zo_36 (Nat.le_of_ble_eq_true rfl)) rfl (fun _ => ⟨Or.inr rfl, rfl⟩) ?_
  refine fb_aload_n (pc := 68) dX0_init_68 rfl rfl ?_
  refine fb_bipush (pc := 69) dX0_init_69 (by decide) ?_
  refine fb_nai (k := 45) (k1 := 46) (x := 45) (pc := 71) dX0_init_71 rfl (by decide) rfl rfl ?_
  refine fb_putf (a := 36) (pc := 73) dX0_init_73 rfl pf_0_36 (zt zo_36 (Nat.le_of_ble_eq_true rfl)) rfl (fun _ => ⟨Or.inr rfl, rfl⟩) ?_
  refine fb_aload_n (pc := 76) dX0_init_76 rfl rfl ?_
  refine fb_bipush (pc := 77) dX0_init_77 (by decide) ?_
  refine fb_nai (k := 46) (k1 := 47) (x := 46) (pc := 79) dX0_init_79 rfl (by decide) rfl rfl ?_
  refine fb_putf (a := 36) (pc := 81) dX0_init_81 rfl pf_0_39 (zt zo_36 (Nat.le_of_ble_eq_true rfl)) rfl (fun _ => ⟨Or.inr rfl, rfl⟩) ?_
  refine fb_aload_n (pc := 84) dX0_init_84 rfl rfl ?_
  refine fb_bipush (pc := 85) dX0_init_85 (by decide) ?_
  refine fb_nai (k := 47) (k1 := 48) (x := 47) (pc := 87) dX0_init_87 rfl (by decide) rfl rfl ?_
  refine fb_putf (a := 36) (pc := 89) dX0_init_89 rfl pf_0_42 (zt zo_36 (Nat.le_of_ble_eq_true rfl)) rfl (fun _ => ⟨Or.inr rfl, rfl⟩) ?_
  refine fb_aload_n (pc := 92) dX0_init_92 rfl rfl ?_
  refine fb_bipush (pc := 93) dX0_init_93 (by decide) ?_
  refine fb_nai (k := 48) (k1 := 49) (x := 48) (pc := 95) dX0_init_95 rfl (by decide) rfl rfl ?_
  refine fb_putf (a := 36) (pc := 97) dX0_init_97 rfl pf_0_45 (zt zo_36 (Nat.le_of_ble_eq_true rfl)) rfl (fun _ => ⟨Or.inr rfl, rfl⟩) ?_
  refine fb_aload_n (pc := 100) dX0_init_100 rfl rfl ?_
  refine fb_bipush (pc := 101) dX0_init_101 (by decide) ?_
  refine fb_nai (k := 49) (k1 := 50) (x := 49) (pc := 103) dX0_init_103 rfl (by decide) rfl rfl ?_
  refine fb_putf (a := 36) (pc := 105) dX0_init_105 rfl pf_0_48 (zt zo_36 (Nat.le_of_ble_eq_true rfl)) rfl (fun _ => ⟨Or.inr rfl, rfl⟩) ?_
  refine fb_aload_n (pc := 108) dX0_init_108 rfl rfl ?_
  refine fb_bipush (pc := 109) dX0_init_109 (by decide) ?_
  refine fb_nai (k := 50) (k1 := 51) (x := 50) (pc := 111) dX0_init_111 rfl (by decide) rfl rfl ?_
  refine fb_putf (a := 36) (pc := 113) dX0_init_113 rfl pf_0_51 (zt zo_36 (Nat.le_of_ble_eq_true rfl)) rfl (fun _ => ⟨Or.inr rfl, rfl⟩) ?_
  refine fb_aload_n (pc := 116) dX0_init_116 rfl rfl ?_
  refine fb_bipush (pc := 117) dX0_init_117 (by decide) ?_
  refine fb_nai (k := 51) (k1 := 52) (x := 51) (pc := 119) dX0_init_119 rfl (by decide) rfl rfl ?_
  refine fb_putf (a := 36) (pc := 121) dX0_init_121 rfl pf_0_54 (zt zo_36 (Nat.le_of_ble_eq_true rfl)) rfl (fun _ => ⟨Or.inr rfl, rfl⟩) ?_
  exact fb_vret (pc := 124) dX0_init_124 rfl ⟨rfl, rfl, rfl⟩
def z5_e (N : pm_M) : pm_M := z5_f1 (z5_f0 (N))
theorem z5_all {sc : Nat × (Nat → Int)} {N : pm_M} : FbX sc 998 mX0_init 0 [(2, 36)] [] (pm_S0.take 37) N (fun r S1 N1 => r = none ∧ S1 = pm_S0.take 52 ∧ N1 = z5_e N) :=
  z5_s0 (z5_s1)
def z6_f0 (N : pm_M) : pm_M := pm_up (pm_mna (N) 53) 52 0 53
theorem z6_s0 {sc : Nat × (Nat → Int)} {N : pm_M} : FbX sc 998 mX8_init 0 [(2, 52)] [] (pm_S0.take 53) N (fun r S1 N1 => r = none ∧ S1 = pm_S0.take 70 ∧ N1 = z6_f0 N) := by
  refine fb_aload_n (pc := 0) dX8_init_0 rfl rfl ?_
  refine fb_obj (pc := 1) dX8_init_1 pl_8_3 (by decide) (by decide) ?_
  refine fb_aload_n (pc := 4) dX8_init_4 rfl rfl ?_
  refine fb_bipush (pc := 5) dX8_init_5 (by decide) ?_
  refine fb_iconst (pc := 7) dX8_init_7 (by decide) ?_
  refine fb_mna (k := 53) (k1 := 70) (x := 53) (pc := 8) dX8_init_8 rfl (by decide) (by decide +kernel) rfl rfl ?_
  refine fb_putf (a := 52) (pc := 12) dX8_init_12 rfl pf_8_13 (zt zo_52 (Nat.le_of_ble_eq_true rfl)) rfl (fun _ => ⟨Or.inr rfl, rfl⟩) ?_
  exact fb_vret (pc := 15) dX8_init_15 rfl ⟨rfl, rfl, rfl⟩
def z6_e (N : pm_M) : pm_M := z6_f0 (N)
theorem z6_all {sc : Nat × (Nat → Int)} {N : pm_M} : FbX sc 998 mX8_init 0 [(2, 52)] [] (pm_S0.take 53) N (fun r S1 N1 => r = none ∧ S1 = pm_S0.take 70 ∧ N1 = z6_e N) :=
  z6_s0
def z7_f0 (N : pm_M) : pm_M := pm_up (N) 70 0 1
theorem z7_s0 {sc : Nat × (Nat → Int)} {N : pm_M} : FbX sc 998 mX7_init 0 [(2, 70), (2, 1)] [] (pm_S0.take 71) N (fun r S1 N1 => r = none ∧ S1 = pm_S0.take 71 ∧ N1 = z7_f0 N) := by
  refine fb_aload_n (pc := 0) dX7_init_0 rfl rfl ?_
  refine fb_obj (pc := 1) dX7_init_1 pl_7_3 (by decide) (by decide) ?_
  refine fb_aload_n (pc := 4) dX7_init_4 rfl rfl ?_
  refine fb_aload_n (pc := 5) dX7_init_5 rfl rfl ?_
  refine fb_putf (a := 70) (pc := 6) dX7_init_6 rfl pf_7_9 (zt zo_70 (Nat.le_of_ble_eq_true rfl)) rfl (fun _ => ⟨Or.inl rfl, rfl⟩) ?_
  exact fb_vret (pc := 9) dX7_init_9 rfl ⟨rfl, rfl, rfl⟩
def z7_e (N : pm_M) : pm_M := z7_f0 (N)
theorem z7_all {sc : Nat × (Nat → Int)} {N : pm_M} : FbX sc 998 mX7_init 0 [(2, 70), (2, 1)] [] (pm_S0.take 71) N (fun r S1 N1 => r = none ∧ S1 = pm_S0.take 71 ∧ N1 = z7_e N) :=
  z7_s0
def z8_f0 (N : pm_M) : pm_M := pm_up (N) 71 0 70
theorem z8_s0 {sc : Nat × (Nat → Int)} {N : pm_M} : FbX sc 998 mX4_init 0 [(2, 71), (2, 70)] [] (pm_S0.take 72) N (fun r S1 N1 => r = none ∧ S1 = pm_S0.take 72 ∧ N1 = z8_f0 N) := by
  refine fb_aload_n (pc := 0) dX4_init_0 rfl rfl ?_
  refine fb_obj (pc := 1) dX4_init_1 pl_4_3 (by decide) (by decide) ?_
  refine fb_aload_n (pc := 4) dX4_init_4 rfl rfl ?_
  refine fb_aload_n (pc := 5) dX4_init_5 rfl rfl ?_
  refine fb_putf (a := 71) (pc := 6) dX4_init_6 rfl pf_4_9 (zt zo_71 (Nat.le_of_ble_eq_true rfl)) rfl (fun _ => ⟨Or.inl rfl, rfl⟩) ?_
  exact fb_vret (pc := 9) dX4_init_9 rfl ⟨rfl, rfl, rfl⟩
def z8_e (N : pm_M) : pm_M := z8_f0 (N)
theorem z8_all {sc : Nat × (Nat → Int)} {N : pm_M} : FbX sc 998 mX4_init 0 [(2, 71), (2, 70)] [] (pm_S0.take 72) N (fun r S1 N1 => r = none ∧ S1 = pm_S0.take 72 ∧ N1 = z8_e N) :=
  z8_s0
def z9_f0 (N : pm_M) : pm_M := pm_up (N) 72 0 70
theorem z9_s0 {sc : Nat × (Nat → Int)} {N : pm_M} : FbX sc 998 mX9_init 0 [(2, 72), (2, 70)] [] (pm_S0.take 73) N (fun r S1 N1 => r = none ∧ S1 = pm_S0.take 73 ∧ N1 = z9_f0 N) := by
  refine fb_aload_n (pc := 0) dX9_init_0 rfl rfl ?_
  refine fb_obj (pc := 1) dX9_init_1 pl_9_3 (by decide) (by decide) ?_
  refine fb_aload_n (pc := 4) dX9_init_4 rfl rfl ?_
  refine fb_aload_n (pc := 5) dX9_init_5 rfl rfl ?_
  refine fb_putf (a := 72) (pc := 6) dX9_init_6 rfl pf_9_9 (zt zo_72 (Nat.le_of_ble_eq_true rfl)) rfl (fun _ => ⟨Or.inl rfl, rfl⟩) ?_
  exact fb_vret (pc := 9) dX9_init_9 rfl ⟨rfl, rfl, rfl⟩
def z9_e (N : pm_M) : pm_M := z9_f0 (N)
theorem z9_all {sc : Nat × (Nat → Int)} {N : pm_M} : FbX sc 998 mX9_init 0 [(2, 72), (2, 70)] [] (pm_S0.take 73) N (fun r S1 N1 => r = none ∧ S1 = pm_S0.take 73 ∧ N1 = z9_e N) :=
  z9_s0
def z10_f0 (N : pm_M) : pm_M := pm_up (pm_up (pm_up (pm_up (pm_up (pm_nw (pm_up (pm_nw (pm_up (pm_nw (N) 74 (fun _ => 0)) 73 2 74) 75 (fun _ => 0)) 73 3 75) 76 (fun _ => 0)) 73 4 76) 73 10 (-1)) 73 12 (-1)) 73 0 2) 73 1 18
theorem z10_s0 {sc : Nat × (Nat → Int)} {N : pm_M} : FbX sc 998 mX1_init 0 [(2, 73), (2, 2), (2, 18)] [] (pm_S0.take 74) N (fun r S1 N1 => r = none ∧ S1 = pm_S0.take 77 ∧ N1 = z10_f0 N) := by
  refine fb_aload_n (pc := 0) dX1_init_0 rfl rfl ?_
  refine fb_obj (pc := 1) dX1_init_1 pl_1_3 (by decide) (by decide) ?_
  refine fb_aload_n (pc := 4) dX1_init_4 rfl rfl ?_
  refine fb_bipush (pc := 5) dX1_init_5 (by decide) ?_
  refine fb_nai (k := 74) (k1 := 75) (x := 74) (pc := 7) dX1_init_7 rfl (by decide) rfl rfl ?_
  refine fb_putf (a := 73) (pc := 9) dX1_init_9 rfl pf_1_9 (zt zo_73 (Nat.le_of_ble_eq_true rfl)) rfl (fun _ => ⟨Or.inl rfl, rfl⟩) ?_
  refine fb_aload_n (pc := 12) dX1_init_12 rfl rfl ?_
  refine fb_bipush (pc := 13) dX1_init_13 (by decide) ?_
  refine fb_nai (k := 75) (k1 := 76) (x := 75) (pc := 15) dX1_init_15 rfl (by decide) rfl rfl ?_
  refine fb_putf (a := 73) (pc := 17) dX1_init_17 rfl pf_1_15 (zt zo_73 (Nat.le_of_ble_eq_true rfl)) rfl (fun _ => ⟨Or.inl rfl, rfl⟩) ?_
  refine fb_aload_n (pc := 20) dX1_init_20 rfl rfl ?_
  refine fb_sipush (pc := 21) dX1_init_21 (by decide) ?_
  refine fb_nai (k := 76) (k1 := 77) (x := 76) (pc := 24) dX1_init_24 rfl (by decide) rfl rfl ?_
  refine fb_putf (a := 73) (pc := 26) dX1_init_26 rfl pf_1_18 (zt zo_73 (Nat.le_of_ble_eq_true rfl)) rfl (fun _ => ⟨Or.inl rfl, rfl⟩) ?_
  refine fb_aload_n (pc := 29) dX1_init_29 rfl rfl ?_
  refine fb_iconst (pc := 30) dX1_init_30 (by decide) ?_
  refine fb_putf (a := 73) (pc := 31) dX1_init_31 rfl pf_1_21 (zt zo_73 (Nat.le_of_ble_eq_true rfl)) rfl (fun _ => ⟨Or.inl rfl, rfl⟩) ?_
  refine fb_aload_n (pc := 34) dX1_init_34 rfl rfl ?_
  refine fb_iconst (pc := 35) dX1_init_35 (by decide) ?_
  refine fb_putf (a := 73) (pc := 36) dX1_init_36 rfl pf_1_25 (zt zo_73 (Nat.le_of_ble_eq_true rfl)) rfl (fun _ => ⟨Or.inl rfl, rfl⟩) ?_
  refine fb_aload_n (pc := 39) dX1_init_39 rfl rfl ?_
  refine fb_aload_n (pc := 40) dX1_init_40 rfl rfl ?_
  refine fb_putf (a := 73) (pc := 41) dX1_init_41 rfl pf_1_28 (zt zo_73 (Nat.le_of_ble_eq_true rfl)) rfl (fun _ => ⟨Or.inl rfl, rfl⟩) ?_
  refine fb_aload_n (pc := 44) dX1_init_44 rfl rfl ?_
  refine fb_aload_n (pc := 45) dX1_init_45 rfl rfl ?_
  refine fb_putf (a := 73) (pc := 46) dX1_init_46 rfl pf_1_32 (zt zo_73 (Nat.le_of_ble_eq_true rfl)) rfl (fun _ => ⟨Or.inl rfl, rfl⟩) ?_
  exact fb_vret (pc := 49) dX1_init_49 rfl ⟨rfl, rfl, rfl⟩
def z10_e (N : pm_M) : pm_M := z10_f0 (N)
theorem z10_all {sc : Nat × (Nat → Int)} {N : pm_M} : FbX sc 998 mX1_init 0 [(2, 73), (2, 2), (2, 18)] [] (pm_S0.take 74) N (fun r S1 N1 => r = none ∧ S1 = pm_S0.take 77 ∧ N1 = z10_e N) :=
  z10_s0
def z11_f0 (N : pm_M) : pm_M := pm_up (pm_mna (pm_up (pm_mna (pm_up (pm_nw (pm_up (pm_nw (pm_up (pm_nw (pm_up (pm_nw (pm_up (pm_nw (N) 78 (fun _ => 0)) 77 3 78) 79 (fun _ => 0)) 77 4 79) 80 (fun _ => 0)) 77 5 80) 81 (fun _ => 0)) 77 6 81) 82 (fun _ => 0)) 77 7 82) 83) 77 8 83) 100) 77 9 100
theorem z11_s0 {sc : Nat × (Nat → Int)} {N : pm_M} {Q : Option pm_V → pm_S → pm_M → Prop} (k : FbX sc 998 mX6_init 69 [(2, 77), (2, 2), (2, 18), (2, 73)] [] (pm_S0.take 117) (z11_f0 N) Q) : FbX sc 998 mX6_init 0 [(2, 77), (2, 2), (2, 18), (2, 73)] [] (pm_S0.take 78) N Q := by
  refine fb_aload_n (pc := 0) dX6_init_0 rfl rfl ?_
  refine fb_obj (pc := 1) dX6_init_1 pl_6_3 (by decide) (by decide) ?_
  refine fb_aload_n (pc := 4) dX6_init_4 rfl rfl ?_
  refine fb_bipush (pc := 5) dX6_init_5 (by decide) ?_
  refine fb_nai (k := 78) (k1 := 79) (x := 78) (pc := 7) dX6_init_7 rfl (by decide) rfl rfl ?_
  refine fb_putf (a := 77) (pc := 9) dX6_init_9 rfl pf_6_9 (zt zo_77 (Nat.le_of_ble_eq_true rfl)) rfl (fun _ => ⟨Or.inl rfl, rfl⟩) ?_
  refine fb_aload_n (pc := 12) dX6_init_12 rfl rfl ?_
  refine fb_bipush (pc := 13) dX6_init_13 (by decide) ?_
  refine fb_nai (k := 79) (k1 := 80) (x := 79) (pc := 15) dX6_init_15 rfl (by decide) rfl rfl ?_
  refine fb_putf (a := 77) (pc := 17) dX6_init_17 rfl pf_6_15 (zt zo_77 (Nat.le_of_ble_eq_true rfl)) rfl (fun _ => ⟨Or.inl rfl, rfl⟩) ?_
  refine fb_aload_n (pc := 20) dX6_init_20 rfl rfl ?_
  refine fb_bipush (pc := 21) dX6_init_21 (by decide) ?_
  refine fb_nai (k := 80) (k1 := 81) (x := 80) (pc := 23) dX6_init_23 rfl (by decide) rfl rfl ?_
  refine fb_putf (a := 77) (pc := 25) dX6_init_25 rfl pf_6_18 (zt zo_77 (Nat.le_of_ble_eq_true rfl)) rfl (fun _ => ⟨Or.inl rfl, rfl⟩) ?_
  refine fb_aload_n (pc := 28) dX6_init_28 rfl rfl ?_
  refine fb_bipush (pc := 29) dX6_init_29 (by decide) ?_
  refine fb_nai (k := 81) (k1 := 82) (x := 81) (pc := 31) dX6_init_31 rfl (by decide) rfl rfl ?_
  refine fb_putf (a := 77) (pc := 33) dX6_init_33 rfl pf_6_21 (zt zo_77 (Nat.le_of_ble_eq_true rfl)) rfl (fun _ => ⟨Or.inl rfl, rfl⟩) ?_
  refine fb_aload_n (pc := 36) dX6_init_36 rfl rfl ?_
  refine fb_bipush (pc := 37) dX6_init_37 (by decide) ?_
  refine fb_nao (k := 82) (k1 := 83) (x := 82) (pc := 39) dX6_init_39 rfl (by decide) rfl rfl ?_
  refine fb_putf (a := 77) (pc := 41) dX6_init_41 rfl pf_6_24 (zt zo_77 (Nat.le_of_ble_eq_true rfl)) rfl (fun _ => ⟨Or.inl rfl, rfl⟩) ?_
  refine fb_aload_n (pc := 44) dX6_init_44 rfl rfl ?_
  refine fb_bipush (pc := 45) dX6_init_45 (by decide) ?_
  refine fb_sipush (pc := 47) dX6_init_47 (by decide) ?_
  refine fb_mna (k := 83) (k1 := 100) (x := 83) (pc := 50) dX6_init_50 rfl (by decide) (by decide +kernel) rfl rfl ?_
  refine fb_putf (a := 77) (pc := 54) dX6_init_54 rfl pf_6_30 (zt zo_77 (Nat.le_of_ble_eq_true rfl)) rfl (fun _ => ⟨Or.inl rfl, rfl⟩) ?_
  refine fb_aload_n (pc := 57) dX6_init_57 rfl rfl ?_
  refine fb_bipush (pc := 58) dX6_init_58 (by decide) ?_
  refine fb_bipush (pc := 60) dX6_init_60 (by decide) ?_
  refine fb_mna (k := 100) (k1 := 117) (x := 100) (pc := 62) dX6_init_62 rfl (by decide) (by decide +kernel) rfl rfl ?_
  refine fb_putf (a := 77) (pc := 66) dX6_init_66 rfl pf_6_33 (zt zo_77 (Nat.le_of_ble_eq_true rfl)) rfl (fun _ => ⟨Or.inl rfl, rfl⟩) ?_
  exact k
def z11_f1 (N : pm_M) : pm_M := pm_up (pm_up (pm_up (N) 77 0 2) 77 1 18) 77 2 73
theorem z11_s1 {sc : Nat × (Nat → Int)} {N : pm_M} : FbX sc 998 mX6_init 69 [(2, 77), (2, 2), (2, 18), (2, 73)] [] (pm_S0.take 117) N (fun r S1 N1 => r = none ∧ S1 = pm_S0.take 117 ∧ N1 = z11_f1 N) := by
  refine fb_aload_n (pc := 69) dX6_init_69 rfl rfl ?_
  refine fb_aload_n (pc := 70) dX6_init_70 rfl rfl ?_
  refine fb_putf (a := 77) (pc := 71) dX6_init_71 rfl pf_6_36 (zt zo_77 (Nat.le_of_ble_eq_true rfl)) rfl (fun _ => ⟨Or.inl rfl, rfl⟩) ?_
  refine fb_aload_n (pc := 74) dX6_init_74 rfl rfl ?_
  refine fb_aload_n (pc := 75) dX6_init_75 rfl rfl ?_
  refine fb_putf (a := 77) (pc := 76) dX6_init_76 rfl pf_6_40 (zt zo_77 (Nat.le_of_ble_eq_true rfl)) rfl (fun _ => ⟨Or.inl rfl, rfl⟩) ?_
  refine fb_aload_n (pc := 79) dX6_init_79 rfl rfl ?_
  refine fb_aload_n (pc := 80) dX6_init_80 rfl rfl ?_
  refine fb_putf (a := 77) (pc := 81) dX6_init_81 rfl pf_6_44 (zt zo_77 (Nat.le_of_ble_eq_true rfl)) rfl (fun _ => ⟨Or.inl rfl, rfl⟩) ?_
  exact fb_vret (pc := 84) dX6_init_84 rfl ⟨rfl, rfl, rfl⟩
def z11_e (N : pm_M) : pm_M := z11_f1 (z11_f0 (N))
theorem z11_all {sc : Nat × (Nat → Int)} {N : pm_M} : FbX sc 998 mX6_init 0 [(2, 77), (2, 2), (2, 18), (2, 73)] [] (pm_S0.take 78) N (fun r S1 N1 => r = none ∧ S1 = pm_S0.take 117 ∧ N1 = z11_e N) :=
  z11_s0 (z11_s1)
def z12_f0 (N : pm_M) : pm_M := pm_up (pm_up (pm_up (pm_mna (pm_up (pm_mna (pm_up (pm_mna (pm_up (pm_nw (pm_up (pm_nw (N) 118 (fun _ => 0)) 117 2 118) 119 (fun _ => 0)) 117 3 119) 120) 117 4 120) 124) 117 5 124) 128) 117 6 128) 117 0 2) 117 1 77
theorem z12_s0 {sc : Nat × (Nat → Int)} {N : pm_M} : FbX sc 998 mX5_init 0 [(2, 117), (2, 2), (2, 77)] [] (pm_S0.take 118) N (fun r S1 N1 => r = none ∧ S1 = pm_S0.take 132 ∧ N1 = z12_f0 N) := by
  refine fb_aload_n (pc := 0) dX5_init_0 rfl rfl ?_
  refine fb_obj (pc := 1) dX5_init_1 pl_5_3 (by decide) (by decide) ?_
  refine fb_aload_n (pc := 4) dX5_init_4 rfl rfl ?_
  refine fb_bipush (pc := 5) dX5_init_5 (by decide) ?_
  refine fb_nai (k := 118) (k1 := 119) (x := 118) (pc := 7) dX5_init_7 rfl (by decide) rfl rfl ?_
  refine fb_putf (a := 117) (pc := 9) dX5_init_9 rfl pf_5_9 (zt zo_117 (Nat.le_of_ble_eq_true rfl)) rfl (fun _ => ⟨Or.inl rfl, rfl⟩) ?_
  refine fb_aload_n (pc := 12) dX5_init_12 rfl rfl ?_
  refine fb_bipush (pc := 13) dX5_init_13 (by decide) ?_
  refine fb_nai (k := 119) (k1 := 120) (x := 119) (pc := 15) dX5_init_15 rfl (by decide) rfl rfl ?_
  refine fb_putf (a := 117) (pc := 17) dX5_init_17 rfl pf_5_15 (zt zo_117 (Nat.le_of_ble_eq_true rfl)) rfl (fun _ => ⟨Or.inl rfl, rfl⟩) ?_
  refine fb_aload_n (pc := 20) dX5_init_20 rfl rfl ?_
  refine fb_iconst (pc := 21) dX5_init_21 (by decide) ?_
  refine fb_bipush (pc := 22) dX5_init_22 (by decide) ?_
  refine fb_mna (k := 120) (k1 := 124) (x := 120) (pc := 24) dX5_init_24 rfl (by decide) (by decide +kernel) rfl rfl ?_
  refine fb_putf (a := 117) (pc := 28) dX5_init_28 rfl pf_5_20 (zt zo_117 (Nat.le_of_ble_eq_true rfl)) rfl (fun _ => ⟨Or.inl rfl, rfl⟩) ?_
  refine fb_aload_n (pc := 31) dX5_init_31 rfl rfl ?_
  refine fb_iconst (pc := 32) dX5_init_32 (by decide) ?_
  refine fb_bipush (pc := 33) dX5_init_33 (by decide) ?_
  refine fb_mna (k := 124) (k1 := 128) (x := 124) (pc := 35) dX5_init_35 rfl (by decide) (by decide +kernel) rfl rfl ?_
  refine fb_putf (a := 117) (pc := 39) dX5_init_39 rfl pf_5_23 (zt zo_117 (Nat.le_of_ble_eq_true rfl)) rfl (fun _ => ⟨Or.inl rfl, rfl⟩) ?_
  refine fb_aload_n (pc := 42) dX5_init_42 rfl rfl ?_
  refine fb_iconst (pc := 43) dX5_init_43 (by decide) ?_
  refine fb_bipush (pc := 44) dX5_init_44 (by decide) ?_
  refine fb_mna (k := 128) (k1 := 132) (x := 128) (pc := 46) dX5_init_46 rfl (by decide) (by decide +kernel) rfl rfl ?_
  refine fb_putf (a := 117) (pc := 50) dX5_init_50 rfl pf_5_26 (zt zo_117 (Nat.le_of_ble_eq_true rfl)) rfl (fun _ => ⟨Or.inl rfl, rfl⟩) ?_
  refine fb_aload_n (pc := 53) dX5_init_53 rfl rfl ?_
  refine fb_aload_n (pc := 54) dX5_init_54 rfl rfl ?_
  refine fb_putf (a := 117) (pc := 55) dX5_init_55 rfl pf_5_29 (zt zo_117 (Nat.le_of_ble_eq_true rfl)) rfl (fun _ => ⟨Or.inl rfl, rfl⟩) ?_
  refine fb_aload_n (pc := 58) dX5_init_58 rfl rfl ?_
  refine fb_aload_n (pc := 59) dX5_init_59 rfl rfl ?_
  refine fb_putf (a := 117) (pc := 60) dX5_init_60 rfl pf_5_33 (zt zo_117 (Nat.le_of_ble_eq_true rfl)) rfl (fun _ => ⟨Or.inl rfl, rfl⟩) ?_
  exact fb_vret (pc := 63) dX5_init_63 rfl ⟨rfl, rfl, rfl⟩
def z12_e (N : pm_M) : pm_M := z12_f0 (N)
theorem z12_all {sc : Nat × (Nat → Int)} {N : pm_M} : FbX sc 998 mX5_init 0 [(2, 117), (2, 2), (2, 77)] [] (pm_S0.take 118) N (fun r S1 N1 => r = none ∧ S1 = pm_S0.take 132 ∧ N1 = z12_e N) :=
  z12_s0
def z13_f0 (N : pm_M) : pm_M := pm_up (pm_up (pm_up (pm_up (pm_nw (pm_up (pm_nw (pm_up (pm_nw (pm_up (pm_nw (pm_up (pm_nw (N) 133 (fun _ => 0)) 132 5 133) 134 (fun _ => 0)) 132 6 134) 135 (fun _ => 0)) 132 7 135) 136 (fun _ => 0)) 132 8 136) 137 (fun _ => 0)) 132 9 137) 132 0 2) 132 1 18) 132 2 73
theorem z13_s0 {sc : Nat × (Nat → Int)} {N : pm_M} {Q : Option pm_V → pm_S → pm_M → Prop} (k : FbX sc 998 mX2_init 64 [(2, 132), (2, 2), (2, 18), (2, 73), (2, 77), (2, 117)] [] (pm_S0.take 138) (z13_f0 N) Q) : FbX sc 998 mX2_init 0 [(2, 132), (2, 2), (2, 18), (2, 73), (2, 77), (2, 117)] [] (pm_S0.take 133) N Q := by
  refine fb_aload_n (pc := 0) dX2_init_0 rfl rfl ?_
  refine fb_obj (pc := 1) dX2_init_1 pl_2_3 (by decide) (by decide) ?_
  refine fb_aload_n (pc := 4) dX2_init_4 rfl rfl ?_
  refine fb_sipush (pc := 5) dX2_init_5 (by decide) ?_
  refine fb_nai (k := 133) (k1 := 134) (x := 133) (pc := 8) dX2_init_8 rfl (by decide) rfl rfl ?_
  refine fb_putf (a := 132) (pc := 10) dX2_init_10 rfl pf_2_9 (zt zo_132 (Nat.le_of_ble_eq_true rfl)) rfl (fun _ => ⟨Or.inl rfl, rfl⟩) ?_
  refine fb_aload_n (pc := 13) dX2_init_13 rfl rfl ?_
  refine fb_sipush (pc := 14) dX2_init_14 (by decide) ?_
  refine fb_nai (k := 134) (k1 := 135) (x := 134) (pc := 17) dX2_init_17 rfl (by decide) rfl rfl ?_
  refine fb_putf (a := 132) (pc := 19) dX2_init_19 rfl pf_2_15 (zt zo_132 (Nat.le_of_ble_eq_true rfl)) rfl (fun _ => ⟨Or.inl rfl, rfl⟩) ?_
  refine fb_aload_n (pc := 22) dX2_init_22 rfl rfl ?_
  refine fb_sipush (pc := 23) dX2_init_23 (by decide) ?_
  refine fb_nai (k := 135) (k1 := 136) (x := 135) (pc := 26) dX2_init_26 rfl (by decide) rfl rfl ?_
  refine fb_putf (a := 132) (pc := 28) dX2_init_28 rfl pf_2_18 (zt zo_132 (Nat.le_of_ble_eq_true rfl)) rfl (fun _ => ⟨Or.inl rfl, rfl⟩) ?_
  refine fb_aload_n (pc := 31) dX2_init_31 rfl rfl ?_
  refine fb_sipush (pc := 32) dX2_init_32 (by decide) ?_
  refine fb_nai (k := 136) (k1 := 137) (x := 136) (pc := 35) dX2_init_35 rfl (by decide) rfl rfl ?_
  refine fb_putf (a := 132) (pc := 37) dX2_init_37 rfl pf_2_21 (zt zo_132 (Nat.le_of_ble_eq_true rfl)) rfl (fun _ => ⟨Or.inl rfl, rfl⟩) ?_
  refine fb_aload_n (pc := 40) dX2_init_40 rfl rfl ?_
  refine fb_sipush (pc := 41) dX2_init_41 (by decide) ?_
  refine fb_nal (k := 137) (k1 := 138) (x := 137) (pc := 44) dX2_init_44 rfl (by decide) rfl rfl ?_
  refine fb_putf (a := 132) (pc := 46) dX2_init_46 rfl pf_2_24 (zt zo_132 (Nat.le_of_ble_eq_true rfl)) rfl (fun _ => ⟨Or.inl rfl, rfl⟩) ?_
  refine fb_aload_n (pc := 49) dX2_init_49 rfl rfl ?_
  refine fb_aload_n (pc := 50) dX2_init_50 rfl rfl ?_
  refine fb_putf (a := 132) (pc := 51) dX2_init_51 rfl pf_2_28 (zt zo_132 (Nat.le_of_ble_eq_true rfl)) rfl (fun _ => ⟨Or.inl rfl, rfl⟩) ?_
  refine fb_aload_n (pc := 54) dX2_init_54 rfl rfl ?_
  refine fb_aload_n (pc := 55) dX2_init_55 rfl rfl ?_
  refine fb_putf (a := 132) (pc := 56) dX2_init_56 rfl pf_2_32 (zt zo_132 (Nat.le_of_ble_eq_true rfl)) rfl (fun _ => ⟨Or.inl rfl, rfl⟩) ?_
  refine fb_aload_n (pc := 59) dX2_init_59 rfl rfl ?_
  refine fb_aload_n (pc := 60) dX2_init_60 rfl rfl ?_
  refine fb_putf (a := 132) (pc := 61) dX2_init_61 rfl pf_2_36 (zt zo_132 (Nat.le_of_ble_eq_true rfl)) rfl (fun _ => ⟨Or.inl rfl, rfl⟩) ?_
  exact k
def z13_f1 (N : pm_M) : pm_M := pm_up (pm_up (N) 132 3 77) 132 4 117
theorem z13_s1 {sc : Nat × (Nat → Int)} {N : pm_M} : FbX sc 998 mX2_init 64 [(2, 132), (2, 2), (2, 18), (2, 73), (2, 77), (2, 117)] [] (pm_S0.take 138) N (fun r S1 N1 => r = none ∧ S1 = pm_S0.take 138 ∧ N1 = z13_f1 N) := by
  refine fb_aload_n (pc := 64) dX2_init_64 rfl rfl ?_
  refine fb_aload (pc := 65) dX2_init_65 rfl rfl ?_
  refine fb_putf (a := 132) (pc := 67) dX2_init_67 rfl pf_2_40 (zt zo_132 (Nat.le_of_ble_eq_true rfl)) rfl (fun _ => ⟨Or.inl rfl, rfl⟩) ?_
  refine fb_aload_n (pc := 70) dX2_init_70 rfl rfl ?_
  refine fb_aload (pc := 71) dX2_init_71 rfl rfl ?_
  refine fb_putf (a := 132) (pc := 73) dX2_init_73 rfl pf_2_44 (zt zo_132 (Nat.le_of_ble_eq_true rfl)) rfl (fun _ => ⟨Or.inl rfl, rfl⟩) ?_
  exact fb_vret (pc := 76) dX2_init_76 rfl ⟨rfl, rfl, rfl⟩
def z13_e (N : pm_M) : pm_M := z13_f1 (z13_f0 (N))
theorem z13_all {sc : Nat × (Nat → Int)} {N : pm_M} : FbX sc 998 mX2_init 0 [(2, 132), (2, 2), (2, 18), (2, 73), (2, 77), (2, 117)] [] (pm_S0.take 133) N (fun r S1 N1 => r = none ∧ S1 = pm_S0.take 138 ∧ N1 = z13_e N) :=
  z13_s0 (z13_s1)
def z14_f0 (N : pm_M) : pm_M := pm_up (pm_up (pm_up (pm_up (pm_up (pm_up (pm_nw (pm_up (pm_nw (N) 139 (fun _ => 0)) 138 5 139) 140 (fun _ => 0)) 138 6 140) 138 0 2) 138 1 18) 138 2 73) 138 3 77) 138 4 117
theorem z14_s0 {sc : Nat × (Nat → Int)} {N : pm_M} : FbX sc 998 mX3_init 0 [(2, 138), (2, 2), (2, 18), (2, 73), (2, 77), (2, 117)] [] (pm_S0.take 139) N (fun r S1 N1 => r = none ∧ S1 = pm_S0.take 141 ∧ N1 = z14_f0 N) := by
  refine fb_aload_n (pc := 0) dX3_init_0 rfl rfl ?_
  refine fb_obj (pc := 1) dX3_init_1 pl_3_3 (by decide) (by decide) ?_
  refine fb_aload_n (pc := 4) dX3_init_4 rfl rfl ?_
  refine fb_sipush (pc := 5) dX3_init_5 (by decide) ?_
  refine fb_nal (k := 139) (k1 := 140) (x := 139) (pc := 8) dX3_init_8 rfl (by decide) rfl rfl ?_
  refine fb_putf (a := 138) (pc := 10) dX3_init_10 rfl pf_3_9 (zt zo_138 (Nat.le_of_ble_eq_true rfl)) rfl (fun _ => ⟨Or.inl rfl, rfl⟩) ?_
  refine fb_aload_n (pc := 13) dX3_init_13 rfl rfl ?_
  refine fb_bipush (pc := 14) dX3_init_14 (by decide) ?_
  refine fb_nai (k := 140) (k1 := 141) (x := 140) (pc := 16) dX3_init_16 rfl (by decide) rfl rfl ?_
  refine fb_putf (a := 138) (pc := 18) dX3_init_18 rfl pf_3_15 (zt zo_138 (Nat.le_of_ble_eq_true rfl)) rfl (fun _ => ⟨Or.inl rfl, rfl⟩) ?_
  refine fb_aload_n (pc := 21) dX3_init_21 rfl rfl ?_
  refine fb_aload_n (pc := 22) dX3_init_22 rfl rfl ?_
  refine fb_putf (a := 138) (pc := 23) dX3_init_23 rfl pf_3_19 (zt zo_138 (Nat.le_of_ble_eq_true rfl)) rfl (fun _ => ⟨Or.inl rfl, rfl⟩) ?_
  refine fb_aload_n (pc := 26) dX3_init_26 rfl rfl ?_
  refine fb_aload_n (pc := 27) dX3_init_27 rfl rfl ?_
  refine fb_putf (a := 138) (pc := 28) dX3_init_28 rfl pf_3_23 (zt zo_138 (Nat.le_of_ble_eq_true rfl)) rfl (fun _ => ⟨Or.inl rfl, rfl⟩) ?_
  refine fb_aload_n (pc := 31) dX3_init_31 rfl rfl ?_
  refine fb_aload_n (pc := 32) dX3_init_32 rfl rfl ?_
  refine fb_putf (a := 138) (pc := 33) dX3_init_33 rfl pf_3_27 (zt zo_138 (Nat.le_of_ble_eq_true rfl)) rfl (fun _ => ⟨Or.inl rfl, rfl⟩) ?_
  refine fb_aload_n (pc := 36) dX3_init_36 rfl rfl ?_
  refine fb_aload (pc := 37) dX3_init_37 rfl rfl ?_
  refine fb_putf (a := 138) (pc := 39) dX3_init_39 rfl pf_3_31 (zt zo_138 (Nat.le_of_ble_eq_true rfl)) rfl (fun _ => ⟨Or.inl rfl, rfl⟩) ?_
  refine fb_aload_n (pc := 42) dX3_init_42 rfl rfl ?_
  refine fb_aload (pc := 43) dX3_init_43 rfl rfl ?_
  refine fb_putf (a := 138) (pc := 45) dX3_init_45 rfl pf_3_35 (zt zo_138 (Nat.le_of_ble_eq_true rfl)) rfl (fun _ => ⟨Or.inl rfl, rfl⟩) ?_
  exact fb_vret (pc := 48) dX3_init_48 rfl ⟨rfl, rfl, rfl⟩
def z14_e (N : pm_M) : pm_M := z14_f0 (N)
theorem z14_all {sc : Nat × (Nat → Int)} {N : pm_M} : FbX sc 998 mX3_init 0 [(2, 138), (2, 2), (2, 18), (2, 73), (2, 77), (2, 117)] [] (pm_S0.take 139) N (fun r S1 N1 => r = none ∧ S1 = pm_S0.take 141 ∧ N1 = z14_e N) :=
  z14_s0
def z15_f0 (N : pm_M) : pm_M := pm_up (pm_up (pm_up (pm_up (N) 141 3 (-1)) 141 0 2) 141 1 73) 141 2 77
theorem z15_s0 {sc : Nat × (Nat → Int)} {N : pm_M} : FbX sc 998 mX10_init 0 [(2, 141), (2, 2), (2, 73), (2, 77)] [] (pm_S0.take 142) N (fun r S1 N1 => r = none ∧ S1 = pm_S0.take 142 ∧ N1 = z15_f0 N) := by
  refine fb_aload_n (pc := 0) dX10_init_0 rfl rfl ?_
  refine fb_obj (pc := 1) dX10_init_1 pl_10_3 (by decide) (by decide) ?_
  refine fb_aload_n (pc := 4) dX10_init_4 rfl rfl ?_
  refine fb_iconst (pc := 5) dX10_init_5 (by decide) ?_
  refine fb_putf (a := 141) (pc := 6) dX10_init_6 rfl pf_10_9 (zt zo_141 (Nat.le_of_ble_eq_true rfl)) rfl (fun _ => ⟨Or.inl rfl, rfl⟩) ?_
  refine fb_aload_n (pc := 9) dX10_init_9 rfl rfl ?_
  refine fb_aload_n (pc := 10) dX10_init_10 rfl rfl ?_
  refine fb_putf (a := 141) (pc := 11) dX10_init_11 rfl pf_10_15 (zt zo_141 (Nat.le_of_ble_eq_true rfl)) rfl (fun _ => ⟨Or.inl rfl, rfl⟩) ?_
  refine fb_aload_n (pc := 14) dX10_init_14 rfl rfl ?_
  refine fb_aload_n (pc := 15) dX10_init_15 rfl rfl ?_
  refine fb_putf (a := 141) (pc := 16) dX10_init_16 rfl pf_10_19 (zt zo_141 (Nat.le_of_ble_eq_true rfl)) rfl (fun _ => ⟨Or.inl rfl, rfl⟩) ?_
  refine fb_aload_n (pc := 19) dX10_init_19 rfl rfl ?_
  refine fb_aload_n (pc := 20) dX10_init_20 rfl rfl ?_
  refine fb_putf (a := 141) (pc := 21) dX10_init_21 rfl pf_10_23 (zt zo_141 (Nat.le_of_ble_eq_true rfl)) rfl (fun _ => ⟨Or.inl rfl, rfl⟩) ?_
  exact fb_vret (pc := 24) dX10_init_24 rfl ⟨rfl, rfl, rfl⟩
def z15_e (N : pm_M) : pm_M := z15_f0 (N)
theorem z15_all {sc : Nat × (Nat → Int)} {N : pm_M} : FbX sc 998 mX10_init 0 [(2, 141), (2, 2), (2, 73), (2, 77)] [] (pm_S0.take 142) N (fun r S1 N1 => r = none ∧ S1 = pm_S0.take 142 ∧ N1 = z15_e N) :=
  z15_s0
def z2_f0 (N : pm_M) : pm_M := pm_up (z15_e (pm_nw (pm_up (z14_e (pm_nw (pm_up (z13_e (pm_nw (pm_up (z12_e (pm_nw (pm_up (z11_e (pm_nw (pm_up (z10_e (pm_nw (pm_up (z9_e (pm_nw (pm_up (z8_e (pm_nw (z7_e (pm_nw (pm_up (z6_e (pm_nw (pm_up (z5_e (pm_nw (pm_up (z4_e (pm_nw (pm_up (z3_e (pm_nw (pm_up (pm_nw (N) 1 (fun _ => 0)) 0 0 1) 2 (pm_dfl 0))) 0 4 2) 18 (pm_dfl 8))) 0 5 18) 36 (pm_dfl 0))) 0 6 36) 52 (pm_dfl 8))) 0 7 52) 70 (pm_dfl 7))) 71 (pm_dfl 4))) 0 2 71) 72 (pm_dfl 9))) 0 3 72) 73 (pm_dfl 1))) 0 8 73) 77 (pm_dfl 6))) 0 9 77) 117 (pm_dfl 5))) 0 10 117) 132 (pm_dfl 2))) 0 11 132) 138 (pm_dfl 3))) 0 12 138) 141 (pm_dfl 10))) 0 13 141
theorem z2_s0 {sc : Nat × (Nat → Int)} {N : pm_M} : FbX sc 999 mX11_init 0 [(2, 0), (9, 0)] [] (pm_S0.take 1) N (fun r S1 N1 => r = none ∧ S1 = pm_S0.take 142 ∧ N1 = z2_f0 N) := by
  refine fb_aload_n (pc := 0) dX11_init_0 rfl rfl ?_
  refine fb_obj (pc := 1) dX11_init_1 pl_11_3 (by decide) (by decide) ?_
  refine fb_aload_n (pc := 4) dX11_init_4 rfl rfl ?_
  refine fb_sipush (pc := 5) dX11_init_5 (by decide) ?_
  refine fb_nab (k := 1) (k1 := 2) (x := 1) (pc := 8) dX11_init_8 rfl (by decide) rfl rfl ?_
  refine fb_putf (a := 0) (pc := 10) dX11_init_10 rfl pf_11_9 (zt zo_0 (Nat.le_of_ble_eq_true rfl)) rfl (fun _ => ⟨Or.inl rfl, rfl⟩) ?_
  refine fb_aload_n (pc := 13) dX11_init_13 rfl rfl ?_
  refine fb_new (k := 2) (k1 := 3) (x := 2) (pc := 14) dX11_init_14 pc_11_13 zo_2 rfl rfl ?_
  refine fb_dup (pc := 17) dX11_init_17 (by decide) ?_
  refine fb_ini (a := 2) (as := []) (rest := [(2, 2), (2, 0)]) (ls' := [(2, 2)]) (pc := 18) dX11_init_18 pl_11_15 (Or.inr rfl) (by decide) rfl rfl rfl (zt zo_2 (Nat.le_of_ble_eq_true rfl)) (by decide) (by decide) rfl rfl (z3_all) ?_
  refine fb_putf (a := 0) (pc := 21) dX11_init_21 rfl pf_11_16 (zt zo_0 (Nat.le_of_ble_eq_true rfl)) rfl (fun _ => ⟨Or.inl rfl, rfl⟩) ?_
  refine fb_aload_n (pc := 24) dX11_init_24 rfl rfl ?_
  refine fb_new (k := 18) (k1 := 19) (x := 18) (pc := 25) dX11_init_25 pc_11_20 zo_18 rfl rfl ?_
  refine fb_dup (pc := 28) dX11_init_28 (by decide) ?_
  refine fb_ini (a := 18) (as := []) (rest := [(2, 18), (2, 0)]) (ls' := [(2, 18)]) (pc := 29) dX11_init_29 pl_11_22 (Or.inr rfl) (by decide) rfl rfl rfl (zt zo_18 (Nat.le_of_ble_eq_true rfl)) (by decide) (by decide) rfl rfl (z4_all) ?_
  refine fb_putf (a := 0) (pc := 32) dX11_init_32 rfl pf_11_23 (zt zo_0 (Nat.le_of_ble_eq_true rfl)) rfl (fun _ => ⟨Or.inl rfl, rfl⟩) ?_
  refine fb_aload_n (pc := 35) dX11_init_35 rfl rfl ?_
  refine fb_new (k := 36) (k1 := 37) (x := 36) (pc := 36) dX11_init_36 pc_11_13 zo_36 rfl rfl ?_
  refine fb_dup (pc := 39) dX11_init_39 (by decide) ?_
  refine fb_ini (a := 36) (as := []) (rest := [(2, 36), (2, 0)]) (ls' := [(2, 36)]) (pc := 40) dX11_init_40 pl_11_15 (Or.inr rfl) (by decide) rfl rfl rfl (zt zo_36 (Nat.le_of_ble_eq_true rfl)) (by decide) (by decide) rfl rfl (z5_all) ?_
  refine fb_putf (a := 0) (pc := 43) dX11_init_43 rfl pf_11_27 (zt zo_0 (Nat.le_of_ble_eq_true rfl)) rfl (fun _ => ⟨Or.inl rfl, rfl⟩) ?_
  refine fb_aload_n (pc := 46) dX11_init_46 rfl rfl ?_
  refine fb_new (k := 52) (k1 := 53) (x := 52) (pc := 47) dX11_init_47 pc_11_20 zo_52 rfl rfl ?_
  refine fb_dup (pc := 50) dX11_init_50 (by decide) ?_
  refine fb_ini (a := 52) (as := []) (rest := [(2, 52), (2, 0)]) (ls' := [(2, 52)]) (pc := 51) dX11_init_51 pl_11_22 (Or.inr rfl) (by decide) rfl rfl rfl (zt zo_52 (Nat.le_of_ble_eq_true rfl)) (by decide) (by decide) rfl rfl (z6_all) ?_
  refine fb_putf (a := 0) (pc := 54) dX11_init_54 rfl pf_11_30 (zt zo_0 (Nat.le_of_ble_eq_true rfl)) rfl (fun _ => ⟨Or.inl rfl, rfl⟩) ?_
  refine fb_new (k := 70) (k1 := 71) (x := 70) (pc := 57) dX11_init_57 pc_11_33 zo_70 rfl rfl ?_
  refine fb_dup (pc := 60) dX11_init_60 (by decide) ?_
  refine fb_aload_n (pc := 61) dX11_init_61 rfl rfl ?_
  refine fb_gtf (a := 0) (v := 1) (pc := 62) dX11_init_62 rfl pf_11_9 (zt zo_0 (Nat.le_of_ble_eq_true rfl)) rfl rfl ?_
  refine fb_ini (a := 70) (as := [(2, 1)]) (rest := [(2, 70)]) (ls' := [(2, 70), (2, 1)]) (pc := 65) dX11_init_65 pl_11_35 (Or.inl rfl) (by decide) rfl rfl rfl (zt zo_70 (Nat.le_of_ble_eq_true rfl)) (by decide) (by decide) rfl rfl (z7_all) ?_
  refine fb_astore_n (ls2 := [(2, 0), (2, 70)]) (pc := 68) dX11_init_68 rfl (Nat.le_of_ble_eq_true rfl) rfl ?_
  refine fb_aload_n (pc := 69) dX11_init_69 rfl rfl ?_
  refine fb_new (k := 71) (k1 := 72) (x := 71) (pc := 70) dX11_init_70 pc_11_38 zo_71 rfl rfl ?_
  refine fb_dup (pc := 73) dX11_init_73 (by decide) ?_
  refine fb_aload_n (pc := 74) dX11_init_74 rfl rfl ?_
  refine fb_ini (a := 71) (as := [(2, 70)]) (rest := [(2, 71), (2, 0)]) (ls' := [(2, 71), (2, 70)]) (pc := 75) dX11_init_75 pl_11_40 (Or.inl rfl) (by decide) rfl rfl rfl (zt zo_71 (Nat.le_of_ble_eq_true rfl)) (by decide) (by decide) rfl rfl (z8_all) ?_
  refine fb_putf (a := 0) (pc := 78) dX11_init_78 rfl pf_11_43 (zt zo_0 (Nat.le_of_ble_eq_true rfl)) rfl (fun _ => ⟨Or.inl rfl, rfl⟩) ?_
  refine fb_aload_n (pc := 81) dX11_init_81 rfl rfl ?_
  refine fb_new (k := 72) (k1 := 73) (x := 72) (pc := 82) dX11_init_82 pc_11_47 zo_72 rfl rfl ?_
  refine fb_dup (pc := 85) dX11_init_85 (by decide) ?_
  refine fb_aload_n (pc := 86) dX11_init_86 rfl rfl ?_
  refine fb_ini (a := 72) (as := [(2, 70)]) (rest := [(2, 72), (2, 0)]) (ls' := [(2, 72), (2, 70)]) (pc := 87) dX11_init_87 pl_11_49 (Or.inl rfl) (by decide) rfl rfl rfl (zt zo_72 (Nat.le_of_ble_eq_true rfl)) (by decide) (by decide) rfl rfl (z9_all) ?_
  refine fb_putf (a := 0) (pc := 90) dX11_init_90 rfl pf_11_50 (zt zo_0 (Nat.le_of_ble_eq_true rfl)) rfl (fun _ => ⟨Or.inl rfl, rfl⟩) ?_
  refine fb_aload_n (pc := 93) dX11_init_93 rfl rfl ?_
  refine fb_new (k := 73) (k1 := 74) (x := 73) (pc := 94) dX11_init_94 pc_11_54 zo_73 rfl rfl ?_
  refine fb_dup (pc := 97) dX11_init_97 (by decide) ?_
  refine fb_aload_n (pc := 98) dX11_init_98 rfl rfl ?_
  refine fb_gtf (a := 0) (v := 2) (pc := 99) dX11_init_99 rfl pf_11_16 (zt zo_0 (Nat.le_of_ble_eq_true rfl)) rfl rfl ?_
  refine fb_aload_n (pc := 102) dX11_init_102 rfl rfl ?_
  refine fb_gtf (a := 0) (v := 18) (pc := 103) dX11_init_103 rfl pf_11_23 (zt zo_0 (Nat.le_of_ble_eq_true rfl)) rfl rfl ?_
  refine fb_ini (a := 73) (as := [(2, 2), (2, 18)]) (rest := [(2, 73), (2, 0)]) (ls' := [(2, 73), (2, 2), (2, 18)]) (pc := 106) dX11_init_106 pl_11_56 (Or.inl rfl) (by decide) rfl rfl rfl (zt zo_73 (Nat.le_of_ble_eq_true rfl)) (by decide) (by decide) rfl rfl (z10_all) ?_
  refine fb_putf (a := 0) (pc := 109) dX11_init_109 rfl pf_11_59 (zt zo_0 (Nat.le_of_ble_eq_true rfl)) rfl (fun _ => ⟨Or.inl rfl, rfl⟩) ?_
  refine fb_aload_n (pc := 112) dX11_init_112 rfl rfl ?_
  refine fb_new (k := 77) (k1 := 78) (x := 77) (pc := 113) dX11_init_113 pc_11_63 zo_77 rfl rfl ?_
  refine fb_dup (pc := 116) dX11_init_116 (by decide) ?_
  refine fb_aload_n (pc := 117) dX11_init_117 rfl rfl ?_
  refine fb_gtf (a := 0) (v := 2) (pc := 118) dX11_init_118 rfl pf_11_16 (zt zo_0 (Nat.le_of_ble_eq_true rfl)) rfl rfl ?_
  refine fb_aload_n (pc := 121) dX11_init_121 rfl rfl ?_
  refine fb_gtf (a := 0) (v := 18) (pc := 122) dX11_init_122 rfl pf_11_23 (zt zo_0 (Nat.le_of_ble_eq_true rfl)) rfl rfl ?_
  refine fb_aload_n (pc := 125) dX11_init_125 rfl rfl ?_
  refine fb_gtf (a := 0) (v := 73) (pc := 126) dX11_init_126 rfl pf_11_59 (zt zo_0 (Nat.le_of_ble_eq_true rfl)) rfl rfl ?_
  refine fb_ini (a := 77) (as := [(2, 2), (2, 18), (2, 73)]) (rest := [(2, 77), (2, 0)]) (ls' := [(2, 77), (2, 2), (2, 18), (2, 73)]) (pc := 129) dX11_init_129 pl_11_65 (Or.inl rfl) (by decide) rfl rfl rfl (zt zo_77 (Nat.le_of_ble_eq_true rfl)) (by decide) (by decide) rfl rfl (z11_all) ?_
  refine fb_putf (a := 0) (pc := 132) dX11_init_132 rfl pf_11_68 (zt zo_0 (Nat.le_of_ble_eq_true rfl)) rfl (fun _ => ⟨Or.inl rfl, rfl⟩) ?_
  refine fb_aload_n (pc := 135) dX11_init_135 rfl rfl ?_
  refine fb_new (k := 117) (k1 := 118) (x := 117) (pc := 136) dX11_init_136 pc_11_72 zo_117 rfl rfl ?_
  refine fb_dup (pc := 139) dX11_init_139 (by decide) ?_
  refine fb_aload_n (pc := 140) dX11_init_140 rfl rfl ?_
  refine fb_gtf (a := 0) (v := 2) (pc := 141) dX11_init_141 rfl pf_11_16 (zt zo_0 (Nat.le_of_ble_eq_true rfl)) rfl rfl ?_
  refine fb_aload_n (pc := 144) dX11_init_144 rfl rfl ?_
  refine fb_gtf (a := 0) (v := 77) (pc := 145) dX11_init_145 rfl pf_11_68 (zt zo_0 (Nat.le_of_ble_eq_true rfl)) rfl rfl ?_
  refine fb_ini (a := 117) (as := [(2, 2), (2, 77)]) (rest := [(2, 117), (2, 0)]) (ls' := [(2, 117), (2, 2), (2, 77)]) (pc := 148) dX11_init_148 pl_11_74 (Or.inl rfl) (by decide) rfl rfl rfl (zt zo_117 (Nat.le_of_ble_eq_true rfl)) (by decide) (by decide) rfl rfl (z12_all) ?_
  refine fb_putf (a := 0) (pc := 151) dX11_init_151 rfl pf_11_77 (zt zo_0 (Nat.le_of_ble_eq_true rfl)) rfl (fun _ => ⟨Or.inl rfl, rfl⟩) ?_
  refine fb_aload_n (pc := 154) dX11_init_154 rfl rfl ?_
  refine fb_new (k := 132) (k1 := 133) (x := 132) (pc := 155) dX11_init_155 pc_11_81 zo_132 rfl rfl ?_
  refine fb_dup (pc := 158) dX11_init_158 (by decide) ?_
  refine fb_aload_n (pc := 159) dX11_init_159 rfl rfl ?_
  refine fb_gtf (a := 0) (v := 2) (pc := 160) dX11_init_160 rfl pf_11_16 (zt zo_0 (Nat.le_of_ble_eq_true rfl)) rfl rfl ?_
  refine fb_aload_n (pc := 163) dX11_init_163 rfl rfl ?_
  refine fb_gtf (a := 0) (v := 18) (pc := 164) dX11_init_164 rfl pf_11_23 (zt zo_0 (Nat.le_of_ble_eq_true rfl)) rfl rfl ?_
  refine fb_aload_n (pc := 167) dX11_init_167 rfl rfl ?_
  refine fb_gtf (a := 0) (v := 73) (pc := 168) dX11_init_168 rfl pf_11_59 (zt zo_0 (Nat.le_of_ble_eq_true rfl)) rfl rfl ?_
  refine fb_aload_n (pc := 171) dX11_init_171 rfl rfl ?_
  refine fb_gtf (a := 0) (v := 77) (pc := 172) dX11_init_172 rfl pf_11_68 (zt zo_0 (Nat.le_of_ble_eq_true rfl)) rfl rfl ?_
  refine fb_aload_n (pc := 175) dX11_init_175 rfl rfl ?_
  refine fb_gtf (a := 0) (v := 117) (pc := 176) dX11_init_176 rfl pf_11_77 (zt zo_0 (Nat.le_of_ble_eq_true rfl)) rfl rfl ?_
  refine fb_ini (a := 132) (as := [(2, 2), (2, 18), (2, 73), (2, 77), (2, 117)]) (rest := [(2, 132), (2, 0)]) (ls' := [(2, 132), (2, 2), (2, 18), (2, 73), (2, 77), (2, 117)]) (pc := 179) dX11_init_179 pl_11_83 (Or.inl rfl) (by decide) rfl rfl rfl (zt zo_132 (Nat.le_of_ble_eq_true rfl)) (by decide) (by decide) rfl rfl (z13_all) ?_
  refine fb_putf (a := 0) (pc := 182) dX11_init_182 rfl pf_11_86 (zt zo_0 (Nat.le_of_ble_eq_true rfl)) rfl (fun _ => ⟨Or.inl rfl, rfl⟩) ?_
  refine fb_aload_n (pc := 185) dX11_init_185 rfl rfl ?_
  refine fb_new (k := 138) (k1 := 139) (x := 138) (pc := 186) dX11_init_186 pc_11_90 zo_138 rfl rfl ?_
  refine fb_dup (pc := 189) dX11_init_189 (by decide) ?_
  refine fb_aload_n (pc := 190) dX11_init_190 rfl rfl ?_
  refine fb_gtf (a := 0) (v := 2) (pc := 191) dX11_init_191 rfl pf_11_16 (zt zo_0 (Nat.le_of_ble_eq_true rfl)) rfl rfl ?_
  refine fb_aload_n (pc := 194) dX11_init_194 rfl rfl ?_
  refine fb_gtf (a := 0) (v := 18) (pc := 195) dX11_init_195 rfl pf_11_23 (zt zo_0 (Nat.le_of_ble_eq_true rfl)) rfl rfl ?_
  refine fb_aload_n (pc := 198) dX11_init_198 rfl rfl ?_
  refine fb_gtf (a := 0) (v := 73) (pc := 199) dX11_init_199 rfl pf_11_59 (zt zo_0 (Nat.le_of_ble_eq_true rfl)) rfl rfl ?_
  refine fb_aload_n (pc := 202) dX11_init_202 rfl rfl ?_
  refine fb_gtf (a := 0) (v := 77) (pc := 203) dX11_init_203 rfl pf_11_68 (zt zo_0 (Nat.le_of_ble_eq_true rfl)) rfl rfl ?_
  refine fb_aload_n (pc := 206) dX11_init_206 rfl rfl ?_
  refine fb_gtf (a := 0) (v := 117) (pc := 207) dX11_init_207 rfl pf_11_77 (zt zo_0 (Nat.le_of_ble_eq_true rfl)) rfl rfl ?_
  refine fb_ini (a := 138) (as := [(2, 2), (2, 18), (2, 73), (2, 77), (2, 117)]) (rest := [(2, 138), (2, 0)]) (ls' := [(2, 138), (2, 2), (2, 18), (2, 73), (2, 77), (2, 117)]) (pc := 210) dX11_init_210 pl_11_92 (Or.inl rfl) (by decide) rfl rfl rfl (zt zo_138 (Nat.le_of_ble_eq_true rfl)) (by decide) (by decide) rfl rfl (z14_all) ?_
  refine fb_putf (a := 0) (pc := 213) dX11_init_213 rfl pf_11_93 (zt zo_0 (Nat.le_of_ble_eq_true rfl)) rfl (fun _ => ⟨Or.inl rfl, rfl⟩) ?_
  refine fb_aload_n (pc := 216) dX11_init_216 rfl rfl ?_
  refine fb_new (k := 141) (k1 := 142) (x := 141) (pc := 217) dX11_init_217 pc_11_97 zo_141 rfl rfl ?_
  refine fb_dup (pc := 220) dX11_init_220 (by decide) ?_
  refine fb_aload_n (pc := 221) dX11_init_221 rfl rfl ?_
  refine fb_gtf (a := 0) (v := 2) (pc := 222) dX11_init_222 rfl pf_11_16 (zt zo_0 (Nat.le_of_ble_eq_true rfl)) rfl rfl ?_
  refine fb_aload_n (pc := 225) dX11_init_225 rfl rfl ?_
  refine fb_gtf (a := 0) (v := 73) (pc := 226) dX11_init_226 rfl pf_11_59 (zt zo_0 (Nat.le_of_ble_eq_true rfl)) rfl rfl ?_
  refine fb_aload_n (pc := 229) dX11_init_229 rfl rfl ?_
  refine fb_gtf (a := 0) (v := 77) (pc := 230) dX11_init_230 rfl pf_11_68 (zt zo_0 (Nat.le_of_ble_eq_true rfl)) rfl rfl ?_
  refine fb_ini (a := 141) (as := [(2, 2), (2, 73), (2, 77)]) (rest := [(2, 141), (2, 0)]) (ls' := [(2, 141), (2, 2), (2, 73), (2, 77)]) (pc := 233) dX11_init_233 pl_11_99 (Or.inl rfl) (by decide) rfl rfl rfl (zt zo_141 (Nat.le_of_ble_eq_true rfl)) (by decide) (by decide) rfl rfl (z15_all) ?_
  refine fb_putf (a := 0) (pc := 236) dX11_init_236 rfl pf_11_102 (zt zo_0 (Nat.le_of_ble_eq_true rfl)) rfl (fun _ => ⟨Or.inl rfl, rfl⟩) ?_
  exact fb_vret (pc := 239) dX11_init_239 rfl ⟨rfl, rfl, rfl⟩
def z2_e (N : pm_M) : pm_M := z2_f0 (N)
theorem z2_all {sc : Nat × (Nat → Int)} {N : pm_M} : FbX sc 999 mX11_init 0 [(2, 0), (9, 0)] [] (pm_S0.take 1) N (fun r S1 N1 => r = none ∧ S1 = pm_S0.take 142 ∧ N1 = z2_e N) :=
  z2_s0
def z16_f0 (N : pm_M) : pm_M := pm_up (pm_nw (pm_up (pm_nw (pm_up (pm_nw (pm_up (pm_nw (pm_up (pm_nw (pm_up (pm_nw (pm_up (pm_nw (N) 143 (fun _ => 0)) 142 1 143) 144 (fun _ => 0)) 142 9 144) 145 (fun _ => 0)) 142 10 145) 146 (fun _ => 0)) 142 11 146) 147 (fun _ => 0)) 142 12 147) 148 (fun _ => 0)) 142 13 148) 149 (fun _ => 0)) 142 14 149
theorem z16_s0 {sc : Nat × (Nat → Int)} {N : pm_M} {Q : Option pm_V → pm_S → pm_M → Prop} (k : FbX sc 999 mX12_init 65 [(2, 142)] [] (pm_S0.take 150) (z16_f0 N) Q) : FbX sc 999 mX12_init 0 [(2, 142)] [] (pm_S0.take 143) N Q := by
  refine fb_aload_n (pc := 0) dX12_init_0 rfl rfl ?_
  refine fb_obj (pc := 1) dX12_init_1 pl_12_1 (by decide) (by decide) ?_
  refine fb_aload_n (pc := 4) dX12_init_4 rfl rfl ?_
  refine fb_sipush (pc := 5) dX12_init_5 (by decide) ?_
  refine fb_nab (k := 143) (k1 := 144) (x := 143) (pc := 8) dX12_init_8 rfl (by decide) rfl rfl ?_
  refine fb_putf (a := 142) (pc := 10) dX12_init_10 rfl pf_12_7 (zt zo_142 (Nat.le_of_ble_eq_true rfl)) rfl (fun _ => ⟨Or.inl rfl, rfl⟩) ?_
  refine fb_aload_n (pc := 13) dX12_init_13 rfl rfl ?_
  refine fb_iconst (pc := 14) dX12_init_14 (by decide) ?_
  refine fb_nai (k := 144) (k1 := 145) (x := 144) (pc := 15) dX12_init_15 rfl (by decide) rfl rfl ?_
  refine fb_putf (a := 142) (pc := 17) dX12_init_17 rfl pf_12_13 (zt zo_142 (Nat.le_of_ble_eq_true rfl)) rfl (fun _ => ⟨Or.inl rfl, rfl⟩) ?_
  refine fb_aload_n (pc := 20) dX12_init_20 rfl rfl ?_
  refine fb_sipush (pc := 21) dX12_init_21 (by decide) ?_
  refine fb_nai (k := 145) (k1 := 146) (x := 145) (pc := 24) dX12_init_24 rfl (by decide) rfl rfl ?_
  refine fb_putf (a := 142) (pc := 26) dX12_init_26 rfl pf_12_17 (zt zo_142 (Nat.le_of_ble_eq_true rfl)) rfl (fun _ => ⟨Or.inl rfl, rfl⟩) ?_
  refine fb_aload_n (pc := 29) dX12_init_29 rfl rfl ?_
  refine fb_sipush (pc := 30) dX12_init_30 (by decide) ?_
  refine fb_nai (k := 146) (k1 := 147) (x := 146) (pc := 33) dX12_init_33 rfl (by decide) rfl rfl ?_
  refine fb_putf (a := 142) (pc := 35) dX12_init_35 rfl pf_12_20 (zt zo_142 (Nat.le_of_ble_eq_true rfl)) rfl (fun _ => ⟨Or.inl rfl, rfl⟩) ?_
  refine fb_aload_n (pc := 38) dX12_init_38 rfl rfl ?_
  refine fb_sipush (pc := 39) dX12_init_39 (by decide) ?_
  refine fb_nai (k := 147) (k1 := 148) (x := 147) (pc := 42) dX12_init_42 rfl (by decide) rfl rfl ?_
  refine fb_putf (a := 142) (pc := 44) dX12_init_44 rfl pf_12_23 (zt zo_142 (Nat.le_of_ble_eq_true rfl)) rfl (fun _ => ⟨Or.inl rfl, rfl⟩) ?_
  refine fb_aload_n (pc := 47) dX12_init_47 rfl rfl ?_
  refine fb_sipush (pc := 48) dX12_init_48 (by decide) ?_
  refine fb_nai (k := 148) (k1 := 149) (x := 148) (pc := 51) dX12_init_51 rfl (by decide) rfl rfl ?_
  refine fb_putf (a := 142) (pc := 53) dX12_init_53 rfl pf_12_26 (zt zo_142 (Nat.le_of_ble_eq_true rfl)) rfl (fun _ => ⟨Or.inl rfl, rfl⟩) ?_
  refine fb_aload_n (pc := 56) dX12_init_56 rfl rfl ?_
  refine fb_sipush (pc := 57) dX12_init_57 (by decide) ?_
  refine fb_nai (k := 149) (k1 := 150) (x := 149) (pc := 60) dX12_init_60 rfl (by decide) rfl rfl ?_
  refine fb_putf (a := 142) (pc := 62) dX12_init_62 rfl pf_12_29 (zt zo_142 (Nat.le_of_ble_eq_true rfl)) rfl (fun _ => ⟨Or.inl rfl, rfl⟩) ?_
  exact k
def z16_f1 (N : pm_M) : pm_M := pm_up (pm_nw (pm_up (pm_nw (pm_up (pm_nw (pm_up (pm_nw (pm_up (pm_nw (pm_up (pm_nw (pm_up (pm_nw (pm_up (pm_nw (N) 150 (fun _ => 0)) 142 15 150) 151 (fun _ => 0)) 142 16 151) 152 (fun _ => 0)) 142 17 152) 153 (fun _ => 0)) 142 23 153) 154 (fun _ => 0)) 142 25 154) 155 (fun _ => 0)) 142 26 155) 156 (fun _ => 0)) 142 27 156) 157 (fun _ => 0)) 142 32 157
theorem z16_s1 {sc : Nat × (Nat → Int)} {N : pm_M} {Q : Option pm_V → pm_S → pm_M → Prop} (k : FbX sc 999 mX12_init 132 [(2, 142)] [] (pm_S0.take 158) (z16_f1 N) Q) : FbX sc 999 mX12_init 65 [(2, 142)] [] (pm_S0.take 150) N Q := by
  refine fb_aload_n (pc := 65) dX12_init_65 rfl rfl ?_
  refine fb_sipush (pc := 66) dX12_init_66 (by decide) ?_
  refine fb_nai (k := 150) (k1 := 151) (x := 150) (pc := 69) dX12_init_69 rfl (by decide) rfl rfl ?_
  refine fb_putf (a := 142) (pc := 71) dX12_init_71 rfl pf_12_32 (zt zo_142 (Nat.le_of_ble_eq_true rfl)) rfl (fun _ => ⟨Or.inl rfl, rfl⟩) ?_
  refine fb_aload_n (pc := 74) dX12_init_74 rfl rfl ?_
  refine fb_sipush (pc := 75) dX12_init_75 (by decide) ?_
  refine fb_nai (k := 151) (k1 := 152) (x := 151) (pc := 78) dX12_init_78 rfl (by decide) rfl rfl ?_
  refine fb_putf (a := 142) (pc := 80) dX12_init_80 rfl pf_12_35 (zt zo_142 (Nat.le_of_ble_eq_true rfl)) rfl (fun _ => ⟨Or.inl rfl, rfl⟩) ?_
  refine fb_aload_n (pc := 83) dX12_init_83 rfl rfl ?_
  refine fb_sipush (pc := 84) dX12_init_84 (by decide) ?_
  refine fb_nai (k := 152) (k1 := 153) (x := 152) (pc := 87) dX12_init_87 rfl (by decide) rfl rfl ?_
  refine fb_putf (a := 142) (pc := 89) dX12_init_89 rfl pf_12_38 (zt zo_142 (Nat.le_of_ble_eq_true rfl)) rfl (fun _ => ⟨Or.inl rfl, rfl⟩) ?_
  refine fb_aload_n (pc := 92) dX12_init_92 rfl rfl ?_
  refine fb_bipush (pc := 93) dX12_init_93 (by decide) ?_
  refine fb_nai (k := 153) (k1 := 154) (x := 153) (pc := 95) dX12_init_95 rfl (by decide) rfl rfl ?_
  refine fb_putf (a := 142) (pc := 97) dX12_init_97 rfl pf_12_41 (zt zo_142 (Nat.le_of_ble_eq_true rfl)) rfl (fun _ => ⟨Or.inl rfl, rfl⟩) ?_
  refine fb_aload_n (pc := 100) dX12_init_100 rfl rfl ?_
  refine fb_bipush (pc := 101) dX12_init_101 (by decide) ?_
  refine fb_nai (k := 154) (k1 := 155) (x := 154) (pc := 103) dX12_init_103 rfl (by decide) rfl rfl ?_
  refine fb_putf (a := 142) (pc := 105) dX12_init_105 rfl pf_12_44 (zt zo_142 (Nat.le_of_ble_eq_true rfl)) rfl (fun _ => ⟨Or.inl rfl, rfl⟩) ?_
  refine fb_aload_n (pc := 108) dX12_init_108 rfl rfl ?_
  refine fb_bipush (pc := 109) dX12_init_109 (by decide) ?_
  refine fb_nai (k := 155) (k1 := 156) (x := 155) (pc := 111) dX12_init_111 rfl (by decide) rfl rfl ?_
  refine fb_putf (a := 142) (pc := 113) dX12_init_113 rfl pf_12_47 (zt zo_142 (Nat.le_of_ble_eq_true rfl)) rfl (fun _ => ⟨Or.inl rfl, rfl⟩) ?_
  refine fb_aload_n (pc := 116) dX12_init_116 rfl rfl ?_
  refine fb_bipush (pc := 117) dX12_init_117 (by decide) ?_
  refine fb_nai (k := 156) (k1 := 157) (x := 156) (pc := 119) dX12_init_119 rfl (by decide) rfl rfl ?_
  refine fb_putf (a := 142) (pc := 121) dX12_init_121 rfl pf_12_50 (zt zo_142 (Nat.le_of_ble_eq_true rfl)) rfl (fun _ => ⟨Or.inl rfl, rfl⟩) ?_
  refine fb_aload_n (pc := 124) dX12_init_124 rfl rfl ?_
  refine fb_bipush (pc := 125) dX12_init_125 (by decide) ?_
  refine fb_nai (k := 157) (k1 := 158) (x := 157) (pc := 127) dX12_init_127 rfl (by decide) rfl rfl ?_
  refine fb_putf (a := 142) (pc := 129) dX12_init_129 rfl pf_12_53 (zt zo_142 (Nat.le_of_ble_eq_true rfl)) rfl (fun _ => ⟨Or.inl rfl, rfl⟩) ?_
  exact k
def z16_f2 (N : pm_M) : pm_M := pm_up (pm_nw (pm_up (pm_nw (pm_up (pm_nw (pm_up (pm_nw (pm_up (pm_nw (pm_up (pm_up (pm_up (pm_nw (N) 158 (fun _ => 0)) 142 33 158) 142 35 (-1)) 142 36 (-1)) 159 (fun _ => 0)) 142 38 159) 160 (fun _ => 0)) 142 39 160) 161 (fun _ => 0)) 142 44 161) 162 (fun _ => 0)) 142 47 162) 163 (fun _ => 0)) 142 48 163
theorem z16_s2 {sc : Nat × (Nat → Int)} {N : pm_M} {Q : Option pm_V → pm_S → pm_M → Prop} (k : FbX sc 999 mX12_init 189 [(2, 142)] [] (pm_S0.take 164) (z16_f2 N) Q) : FbX sc 999 mX12_init 132 [(2, 142)] [] (pm_S0.take 158) N Q := by
  refine fb_aload_n (pc := 132) dX12_init_132 rfl rfl ?_
  refine fb_sipush (pc := 133) dX12_init_133 (by decide) ?_
  refine fb_nai (k := 158) (k1 := 159) (x := 158) (pc := 136) dX12_init_136 rfl (by decide) rfl rfl ?_
  refine fb_putf (a := 142) (pc := 138) dX12_init_138 rfl pf_12_56 (zt zo_142 (Nat.le_of_ble_eq_true rfl)) rfl (fun _ => ⟨Or.inl rfl, rfl⟩) ?_
  refine fb_aload_n (pc := 141) dX12_init_141 rfl rfl ?_
  refine fb_iconst (pc := 142) dX12_init_142 (by decide) ?_
  refine fb_putf (a := 142) (pc := 143) dX12_init_143 rfl pf_12_59 (zt zo_142 (Nat.le_of_ble_eq_true rfl)) rfl (fun _ => ⟨Or.inl rfl, rfl⟩) ?_
  refine fb_aload_n (pc := 146) dX12_init_146 rfl rfl ?_
  refine fb_iconst (pc := 147) dX12_init_147 (by decide) ?_
  refine fb_putf (a := 142) (pc := 148) dX12_init_148 rfl pf_12_63 (zt zo_142 (Nat.le_of_ble_eq_true rfl)) rfl (fun _ => ⟨Or.inl rfl, rfl⟩) ?_
  refine fb_aload_n (pc := 151) dX12_init_151 rfl rfl ?_
  refine fb_bipush (pc := 152) dX12_init_152 (by decide) ?_
  refine fb_nai (k := 159) (k1 := 160) (x := 159) (pc := 154) dX12_init_154 rfl (by decide) rfl rfl ?_
  refine fb_putf (a := 142) (pc := 156) dX12_init_156 rfl pf_12_66 (zt zo_142 (Nat.le_of_ble_eq_true rfl)) rfl (fun _ => ⟨Or.inl rfl, rfl⟩) ?_
  refine fb_aload_n (pc := 159) dX12_init_159 rfl rfl ?_
  refine fb_bipush (pc := 160) dX12_init_160 (by decide) ?_
  refine fb_nai (k := 160) (k1 := 161) (x := 160) (pc := 162) dX12_init_162 rfl (by decide) rfl rfl ?_
  refine fb_putf (a := 142) (pc := 164) dX12_init_164 rfl pf_12_69 (zt zo_142 (Nat.le_of_ble_eq_true rfl)) rfl (fun _ => ⟨Or.inl rfl, rfl⟩) ?_
  refine fb_aload_n (pc := 167) dX12_init_167 rfl rfl ?_
  refine fb_bipush (pc := 168) dX12_init_168 (by decide) ?_
  refine fb_nai (k := 161) (k1 := 162) (x := 161) (pc := 170) dX12_init_170 rfl (by decide) rfl rfl ?_
  refine fb_putf (a := 142) (pc := 172) dX12_init_172 rfl pf_12_72 (zt zo_142 (Nat.le_of_ble_eq_true rfl)) rfl (fun _ => ⟨Or.inl rfl, rfl⟩) ?_
  refine fb_aload_n (pc := 175) dX12_init_175 rfl rfl ?_
  refine fb_iconst (pc := 176) dX12_init_176 (by decide) ?_
  refine fb_nai (k := 162) (k1 := 163) (x := 162) (pc := 177) dX12_init_177 rfl (by decide) rfl rfl ?_
  refine fb_putf (a := 142) (pc := 179) dX12_init_179 rfl pf_12_75 (zt zo_142 (Nat.le_of_ble_eq_true rfl)) rfl (fun _ => ⟨Or.inl rfl, rfl⟩) ?_
  refine fb_aload_n (pc := 182) dX12_init_182 rfl rfl ?_
  refine fb_iconst (pc := 183) dX12_init_183 (by decide) ?_
  refine fb_nai (k := 163) (k1 := 164) (x := 163) (pc := 184) dX12_init_184 rfl (by decide) rfl rfl ?_
  refine fb_putf (a := 142) (pc := 186) dX12_init_186 rfl pf_12_78 (zt zo_142 (Nat.le_of_ble_eq_true rfl)) rfl (fun _ => ⟨Or.inl rfl, rfl⟩) ?_
  exact k
def z16_f3 (N : pm_M) : pm_M := pm_up (pm_nw (pm_up (pm_nw (pm_up (pm_nw (pm_up (pm_nw (pm_up (pm_nw (pm_up (pm_nw (pm_up (pm_nw (pm_up (pm_nw (N) 164 (fun _ => 0)) 142 49 164) 165 (fun _ => 0)) 142 51 165) 166 (fun _ => 0)) 142 52 166) 167 (fun _ => 0)) 142 53 167) 168 (fun _ => 0)) 142 54 168) 169 (fun _ => 0)) 142 55 169) 170 (fun _ => 0)) 142 56 170) 171 (fun _ => 0)) 142 57 171
theorem z16_s3 {sc : Nat × (Nat → Int)} {N : pm_M} {Q : Option pm_V → pm_S → pm_M → Prop} (k : FbX sc 999 mX12_init 258 [(2, 142)] [] (pm_S0.take 172) (z16_f3 N) Q) : FbX sc 999 mX12_init 189 [(2, 142)] [] (pm_S0.take 164) N Q := by
  refine fb_aload_n (pc := 189) dX12_init_189 rfl rfl ?_
  refine fb_iconst (pc := 190) dX12_init_190 (by decide) ?_
  refine fb_nai (k := 164) (k1 := 165) (x := 164) (pc := 191) dX12_init_191 rfl (by decide) rfl rfl ?_
  refine fb_putf (a := 142) (pc := 193) dX12_init_193 rfl pf_12_81 (zt zo_142 (Nat.le_of_ble_eq_true rfl)) rfl (fun _ => ⟨Or.inl rfl, rfl⟩) ?_
  refine fb_aload_n (pc := 196) dX12_init_196 rfl rfl ?_
  refine fb_sipush (pc := 197) dX12_init_197 (by decide) ?_
  refine fb_nai (k := 165) (k1 := 166) (x := 165) (pc := 200) dX12_init_200 rfl (by decide) rfl rfl ?_
  refine fb_putf (a := 142) (pc := 202) dX12_init_202 rfl pf_12_84 (zt zo_142 (Nat.le_of_ble_eq_true rfl)) rfl (fun _ => ⟨Or.inl rfl, rfl⟩) ?_
  refine fb_aload_n (pc := 205) dX12_init_205 rfl rfl ?_
  refine fb_sipush (pc := 206) dX12_init_206 (by decide) ?_
  refine fb_nai (k := 166) (k1 := 167) (x := 166) (pc := 209) dX12_init_209 rfl (by decide) rfl rfl ?_
  refine fb_putf (a := 142) (pc := 211) dX12_init_211 rfl pf_12_87 (zt zo_142 (Nat.le_of_ble_eq_true rfl)) rfl (fun _ => ⟨Or.inl rfl, rfl⟩) ?_
  refine fb_aload_n (pc := 214) dX12_init_214 rfl rfl ?_
  refine fb_sipush (pc := 215) dX12_init_215 (by decide) ?_
  refine fb_nai (k := 167) (k1 := 168) (x := 167) (pc := 218) dX12_init_218 rfl (by decide) rfl rfl ?_
  refine fb_putf (a := 142) (pc := 220) dX12_init_220 rfl pf_12_90 (zt zo_142 (Nat.le_of_ble_eq_true rfl)) rfl (fun _ => ⟨Or.inl rfl, rfl⟩) ?_
  refine fb_aload_n (pc := 223) dX12_init_223 rfl rfl ?_
  refine fb_sipush (pc := 224) dX12_init_224 (by decide) ?_
  refine fb_nai (k := 168) (k1 := 169) (x := 168) (pc := 227) dX12_init_227 rfl (by decide) rfl rfl ?_
  refine fb_putf (a := 142) (pc := 229) dX12_init_229 rfl pf_12_93 (zt zo_142 (Nat.le_of_ble_eq_true rfl)) rfl (fun _ => ⟨Or.inl rfl, rfl⟩) ?_
  refine fb_aload_n (pc := 232) dX12_init_232 rfl rfl ?_
  refine fb_sipush (pc := 233) dX12_init_233 (by decide) ?_
  refine fb_nai (k := 169) (k1 := 170) (x := 169) (pc := 236) dX12_init_236 rfl (by decide) rfl rfl ?_
  refine fb_putf (a := 142) (pc := 238) dX12_init_238 rfl pf_12_96 (zt zo_142 (Nat.le_of_ble_eq_true rfl)) rfl (fun _ => ⟨Or.inl rfl, rfl⟩) ?_
  refine fb_aload_n (pc := 241) dX12_init_241 rfl rfl ?_
  refine fb_sipush (pc := 242) dX12_init_242 (by decide) ?_
  refine fb_nai (k := 170) (k1 := 171) (x := 170) (pc := 245) dX12_init_245 rfl (by decide) rfl rfl ?_
  refine fb_putf (a := 142) (pc := 247) dX12_init_247 rfl pf_12_99 (zt zo_142 (Nat.le_of_ble_eq_true rfl)) rfl (fun _ => ⟨Or.inl rfl, rfl⟩) ?_
  refine fb_aload_n (pc := 250) dX12_init_250 rfl rfl ?_
  refine fb_bipush (pc := 251) dX12_init_251 (by decide) ?_
  refine fb_nao (k := 171) (k1 := 172) (x := 171) (pc := 253) dX12_init_253 rfl (by decide) rfl rfl ?_
  refine fb_putf (a := 142) (pc := 255) dX12_init_255 rfl pf_12_102 (zt zo_142 (Nat.le_of_ble_eq_true rfl)) rfl (fun _ => ⟨Or.inl rfl, rfl⟩) ?_
  exact k
def z16_f4 (N : pm_M) : pm_M := pm_up (pm_nw (pm_up (pm_nw (pm_up (pm_nw (pm_up (pm_nw (pm_up (pm_nw (N) 172 (fun _ => 0)) 142 58 172) 173 (fun _ => 0)) 142 59 173) 174 (fun _ => 0)) 142 61 174) 175 (fun _ => 0)) 142 62 175) 176 (fun _ => 0)) 142 63 176
theorem z16_s4 {sc : Nat × (Nat → Int)} {N : pm_M} : FbX sc 999 mX12_init 258 [(2, 142)] [] (pm_S0.take 172) N (fun r S1 N1 => r = none ∧ S1 = pm_S0.take 177 ∧ N1 = z16_f4 N) := by
  refine fb_aload_n (pc := 258) dX12_init_258 rfl rfl ?_
  refine fb_iconst (pc := 259) dX12_init_259 (by decide) ?_
  refine fb_nai (k := 172) (k1 := 173) (x := 172) (pc := 260) dX12_init_260 rfl (by decide) rfl rfl ?_
  refine fb_putf (a := 142) (pc := 262) dX12_init_262 rfl pf_12_106 (zt zo_142 (Nat.le_of_ble_eq_true rfl)) rfl (fun _ => ⟨Or.inl rfl, rfl⟩) ?_
  refine fb_aload_n (pc := 265) dX12_init_265 rfl rfl ?_
  refine fb_bipush (pc := 266) dX12_init_266 (by decide) ?_
  refine fb_nai (k := 173) (k1 := 174) (x := 173) (pc := 268) dX12_init_268 rfl (by decide) rfl rfl ?_
  refine fb_putf (a := 142) (pc := 270) dX12_init_270 rfl pf_12_109 (zt zo_142 (Nat.le_of_ble_eq_true rfl)) rfl (fun _ => ⟨Or.inl rfl, rfl⟩) ?_
  refine fb_aload_n (pc := 273) dX12_init_273 rfl rfl ?_
  refine fb_bipush (pc := 274) dX12_init_274 (by decide) ?_
  refine fb_nai (k := 174) (k1 := 175) (x := 174) (pc := 276) dX12_init_276 rfl (by decide) rfl rfl ?_
  refine fb_putf (a := 142) (pc := 278) dX12_init_278 rfl pf_12_112 (zt zo_142 (Nat.le_of_ble_eq_true rfl)) rfl (fun _ => ⟨Or.inl rfl, rfl⟩) ?_
  refine fb_aload_n (pc := 281) dX12_init_281 rfl rfl ?_
  refine fb_bipush (pc := 282) dX12_init_282 (by decide) ?_
  refine fb_nai (k := 175) (k1 := 176) (x := 175) (pc := 284) dX12_init_284 rfl (by decide) rfl rfl ?_
  refine fb_putf (a := 142) (pc := 286) dX12_init_286 rfl pf_12_115 (zt zo_142 (Nat.le_of_ble_eq_true rfl)) rfl (fun _ => ⟨Or.inl rfl, rfl⟩) ?_
  refine fb_aload_n (pc := 289) dX12_init_289 rfl rfl ?_
  refine fb_bipush (pc := 290) dX12_init_290 (by decide) ?_
  refine fb_nai (k := 176) (k1 := 177) (x := 176) (pc := 292) dX12_init_292 rfl (by decide) rfl rfl ?_
  refine fb_putf (a := 142) (pc := 294) dX12_init_294 rfl pf_12_118 (zt zo_142 (Nat.le_of_ble_eq_true rfl)) rfl (fun _ => ⟨Or.inl rfl, rfl⟩) ?_
  exact fb_vret (pc := 297) dX12_init_297 rfl ⟨rfl, rfl, rfl⟩
def z16_e (N : pm_M) : pm_M := z16_f4 (z16_f3 (z16_f2 (z16_f1 (z16_f0 (N)))))
theorem z16_all {sc : Nat × (Nat → Int)} {N : pm_M} : FbX sc 999 mX12_init 0 [(2, 142)] [] (pm_S0.take 143) N (fun r S1 N1 => r = none ∧ S1 = pm_S0.take 177 ∧ N1 = z16_e N) :=
  z16_s0 (z16_s1 (z16_s2 (z16_s3 (z16_s4))))
def z1_f0 (N : pm_M) : pm_M := pm_nw (z16_e (pm_nw (z2_e (pm_nw (N) 0 (pm_dfl 11))) 142 (pm_dfl 12))) 177 (fun _ => 0)
theorem z1_s0 {sc : Nat × (Nat → Int)} {N : pm_M} {Q : Option pm_V → pm_S → pm_M → Prop} (k : FbX sc 1000 mL_law 23 [(4, 0), (2, 0), (2, 142), (2, 177), (0, 0), (9, 0), (9, 0)] [] (pm_S0.take 178) (z1_f0 N) Q) : FbX sc 1000 mL_law 0 [(4, 0), (9, 0), (9, 0), (9, 0), (9, 0), (9, 0), (9, 0)] [] (pm_S0.take 0) N Q := by
  refine fb_new (k := 0) (k1 := 1) (x := 0) (pc := 0) dL_law_0 pc_13_8 zo_0 rfl rfl ?_
  refine fb_dup (pc := 3) dL_law_3 (by decide) ?_
  refine fb_ini (a := 0) (as := []) (rest := [(2, 0)]) (ls' := [(2, 0), (9, 0)]) (pc := 4) dL_law_4 pl_13_18 (Or.inl rfl) (by decide) rfl rfl rfl (zt zo_0 (Nat.le_of_ble_eq_true rfl)) (by decide) (by decide) rfl rfl (z2_all) ?_
  refine fb_astore_n (ls2 := [(4, 0), (2, 0), (9, 0), (9, 0), (9, 0), (9, 0), (9, 0)]) (pc := 7) dL_law_7 rfl (Nat.le_of_ble_eq_true rfl) rfl ?_
  refine fb_new (k := 142) (k1 := 143) (x := 142) (pc := 8) dL_law_8 pc_13_19 zo_142 rfl rfl ?_
  refine fb_dup (pc := 11) dL_law_11 (by decide) ?_
  refine fb_ini (a := 142) (as := []) (rest := [(2, 142)]) (ls' := [(2, 142)]) (pc := 12) dL_law_12 pl_13_21 (Or.inl rfl) (by decide) rfl rfl rfl (zt zo_142 (Nat.le_of_ble_eq_true rfl)) (by decide) (by decide) rfl rfl (z16_all) ?_
  refine fb_astore_n (ls2 := [(4, 0), (2, 0), (2, 142), (9, 0), (9, 0), (9, 0), (9, 0)]) (pc := 15) dL_law_15 rfl (Nat.le_of_ble_eq_true rfl) rfl ?_
  refine fb_iconst (pc := 16) dL_law_16 (by decide) ?_
  refine fb_nal (k := 177) (k1 := 178) (x := 177) (pc := 17) dL_law_17 rfl (by decide) rfl rfl ?_
  refine fb_astore_n (ls2 := [(4, 0), (2, 0), (2, 142), (2, 177), (9, 0), (9, 0), (9, 0)]) (pc := 19) dL_law_19 rfl (Nat.le_of_ble_eq_true rfl) rfl ?_
  refine fb_iconst (pc := 20) dL_law_20 (by decide) ?_
  refine fb_istore (ls2 := [(4, 0), (2, 0), (2, 142), (2, 177), (0, 0), (9, 0), (9, 0)]) (pc := 21) dL_law_21 rfl (Nat.le_of_ble_eq_true rfl) rfl ?_
  exact k
def z1_e (N : pm_M) : pm_M := z1_f0 (N)
theorem z1_all {sc : Nat × (Nat → Int)} {N : pm_M} {Q : Option pm_V → pm_S → pm_M → Prop} (k : FbX sc 1000 mL_law 23 [(4, 0), (2, 0), (2, 142), (2, 177), (0, 0), (9, 0), (9, 0)] [] (pm_S0.take 178) (z1_e N) Q) : FbX sc 1000 mL_law 0 [(4, 0), (9, 0), (9, 0), (9, 0), (9, 0), (9, 0), (9, 0)] [] (pm_S0.take 0) N Q :=
  z1_s0 (k)
def zM : pm_M := z1_e (fun _ _ => 0)

-- needs 30 31 32 33a 33b 33c 33d 33e 33f 33g 33h 33i 33j 40 41 42 43 44 45 46 50 51 52 53 54
/-! the class learns the runs of all tests -/
theorem fstep_tr {P : Pg} {F : Fo} {s x : Int} {σ : Sg} (h : x ∈ (fstep P F s σ).2.2.1) : x ∈ σ.2.1 ∨ x = s := by
  unfold fstep at h
  split at h
  · exact Or.inl h
  · split at h
    · rcases List.mem_append.mp h with h | h
      · exact Or.inl h
      · exact Or.inr (by simpa using h)
    · split at h
      · rcases List.mem_append.mp h with h | h
        · exact Or.inl h
        · exact Or.inr (by simpa using h)
      · split at h
        · rcases List.mem_append.mp h with h | h
          · exact Or.inl h
          · exact Or.inr (by simpa using h)
        · rcases List.mem_append.mp h with h | h
          · exact Or.inl h
          · exact Or.inr (by simpa using h)
theorem fstep_rc {P : Pg} {F : Fo} {s : Int} {σ : Sg} : (fstep P F s σ).2.2.2.2.2.2 = s :: σ.2.2.2.2.2 := by
  unfold fstep
  split
  · rfl
  · split
    · rfl
    · split
      · rfl
      · split <;> rfl
theorem flat_tr {P : Pg} {F : Fo} : ∀ (n : Nat) (s x : Int) (σ : Sg), x ∈ (flat P F n s σ).2.2.1 → x ∈ σ.2.1 ∨ isSt P x := by
  intro n
  induction n with
  | zero => intro s x σ h; exact Or.inl h
  | succ n ih =>
    intro s x σ h
    rw [flat_succ] at h
    by_cases hs : 0 ≤ s ∧ s < P 2 15 ∧ P 3 s ≤ 3
    · rw [if_pos hs] at h
      by_cases h5 : P 5 s = 1
      · rw [if_pos h5] at h; exact ih _ _ _ h
      · rw [if_neg h5] at h
        rcases ih _ _ _ h with h | h
        · rcases fstep_tr h with h | h
          · exact Or.inl h
          · subst h; exact Or.inr hs
        · exact Or.inr h
    · rw [if_neg hs] at h; exact Or.inl h
theorem flat_ok {P : Pg} {F : Fo} : ∀ (n : Nat) (s : Int) (σ : Sg), Sok σ → Sok (flat P F n s σ).2 := by
  intro n
  induction n with
  | zero => intro s σ h; exact h
  | succ n ih =>
    intro s σ h
    rw [flat_succ]
    by_cases hs : 0 ≤ s ∧ s < P 2 15 ∧ P 3 s ≤ 3
    · rw [if_pos hs]
      by_cases h5 : P 5 s = 1
      · rw [if_pos h5]; exact ih _ _ h
      · rw [if_neg h5]; exact ih _ _ (fstep_ok h)
    · rw [if_neg hs]; exact h
theorem runP_tr {P : Pg} {F : Fo} {r : Int → Int} {x : Int} (h : x ∈ (runP P F r).2.1) : isSt P x := by
  rcases flat_tr _ _ _ _ h with h | h
  · exact absurd h (by simp [sg0])
  · exact h
theorem runP_ok {P : Pg} {F : Fo} {r : Int → Int} : Sok (runP P F r) := flat_ok _ _ _ ⟨Nat.zero_le _, Int.le_refl _, Int.le_refl _⟩
def nfB (P : Pg) (F : Fo) (T : Ts) (t : Int) : Prop := ¬ T t 4 = 1 ∧ okT P F T t = 0
noncomputable def nfb (P : Pg) (F : Fo) (T : Ts) (t : Int) : Bool := hdB T 0 t && decide (okT P F T t = 0)
/-- what is known of one test's run -/
def RK1 (P : Pg) (F : Fo) (T : Ts) (t : Int) (M : pm_M) : Prop := gI M 78 t = (runP P F (T t)).2.2.1 ∧ gI M 79 t = (runP P F (T t)).2.2.2.1 ∧ gI M 80 t = ((runP P F (T t)).2.1.length : Int) ∧ gI M 81 t = (runP P F (T t)).2.2.2.2.1 ∧ gI M 82 t = okT P F T t ∧ (∀ i : Nat, i < (runP P F (T t)).2.1.length → gI M (84 + t.toNat) (i : Int) = (runP P F (T t)).2.1.getD i 0) ∧ (∀ k, 0 ≤ k → k < 60 → gI M (101 + t.toNat) k = ((runP P F (T t)).2.1.count k : Int))
def RC (P : Pg) (F : Fo) (T : Ts) (n : Int) (M : pm_M) : Prop := gI M 77 10 = cn (psB P F T 0) n.toNat ∧ gI M 77 11 = cn (nfb P F T) n.toNat ∧ gI M 77 12 = cn (psB P F T 1) n.toNat ∧ ∀ s, 0 ≤ s → s < 60 → (bt (gI M 77 13) s ↔ ∀ t, 0 ≤ t → t < n → nfB P F T t → s ∈ (runP P F (T t)).2.2.2.2.2)
def pL (t : Int) (a i : Nat) : Bool := pRun a i || ((78 ≤ a && a ≤ 82) && i == t.toNat) || a == 84 + t.toNat || a == 101 + t.toNat || (a == 77 && (i == 10 || i == 11 || i == 12 || i == 13))
theorem RK1.fr {P : Pg} {F : Fo} {T : Ts} {t : Int} {M M' : pm_M} {p : Nat → Nat → Bool} (h : RK1 P F T t M) (hf : Fr p M M') (h1 : ∀ a, 78 ≤ a → a ≤ 82 → p a t.toNat = false) (h2 : ∀ i, p (84 + t.toNat) i = false) (h3 : ∀ i, p (101 + t.toNat) i = false) : RK1 P F T t M' := by
  unfold RK1
  rw [hf.g (h1 78 (by decide) (by decide)), hf.g (h1 79 (by decide) (by decide)), hf.g (h1 80 (by decide) (by decide)), hf.g (h1 81 (by decide) (by decide)), hf.g (h1 82 (by decide) (by decide)), hf.c h2, hf.c h3]
  exact h
theorem RK1.pl {P : Pg} {F : Fo} {T : Ts} {u t : Int} {M M' : pm_M} (h : RK1 P F T u M) (hf : Fr (pL t) M M') (hu : 0 ≤ u) (hut : u < t) (ht : t < 16) : RK1 P F T u M' := by
  have a1 : u.toNat < t.toNat := by omega
  have a2 : t.toNat < 16 := by omega
  refine h.fr hf ?_ ?_ ?_
  · intro a b1 b2; simp [pL, pRun]; omega
  · intro i; simp [pL, pRun]; omega
  · intro i; simp [pL, pRun]; omega
theorem s0_row {t : Nat} (ht : t < 16) : pm_S0[101 + t]? = some (14, 60) ∧ pm_nr (101 + t) = true := by
  have key : ∀ t : Nat, t < 16 → pm_S0[101 + t]? = some (14, 60) ∧ pm_nr (101 + t) = true := by decide +kernel
  exact key t ht
theorem count_take {l : List Int} {k : Nat} (hk : k < l.length) (j : Int) : (l.take (k + 1)).count j = (l.take k).count j + (if l.getD k 0 = j then 1 else 0) := by
  rw [List.take_succ_eq_append_getElem hk, List.count_append, List.getD_eq_getElem?_getD, List.getElem?_eq_getElem hk]
  simp only [Option.getD_some, List.count_singleton, beq_iff_eq]
theorem learnTest_r {P : Pg} {F : Fo} {T : Ts} {nT : Int} (hW : WF P) {t : Int} (t0 : 0 ≤ t) (t1 : t < nT) {M : pm_M} {K : pm_M → Prop} (hS : Sm P M) (hF : Fm F M) (hT : CT T nT M) (hC : RC P F T t M)
    (hq : ∀ M', Fr (pL t) M M' → RK1 P F T t M' → RC P F T (t + 1) M' → K M') : k6_learnTest t M K := by
  have hnT := hT.2.1
  have h60 := hW.le
  have a2 : t.toNat < 16 := by omega
  apply k6_learnTest_r
  refine cpasses_r hW.r t0 t1 hS hF hT (fun M1 hR hCr => ?_)
  have f1 : Fr (pL t) M M1 := hR.fr.mono (fun a i h => by simp only [pL, h, Bool.true_or])
  obtain ⟨-, c5, ct, c6, c7, c8, c9⟩ := hCr
  have hok := runP_ok (P := P) (F := F) (r := T t)
  have htr : ∀ x ∈ (runP P F (T t)).2.1, isSt P x := fun x hx => runP_tr hx
  have ok01 := okT_01 P F T t
  refine ⟨⟨t0, by omega⟩, ok01, ?_⟩
  -- the run's numbers
  generalize hσ : runP P F (T t) = σ at *
  generalize hM2 : upI (upI (upI (upI (upI M1 82 t (okT P F T t)) 78 t (gI M1 73 6)) 79 t (gI M1 73 7)) 80 t (gI M1 73 5)) 81 t (gI M1 73 8) = M2
  have f2 : Fr (pL t) M M2 := by
    rw [← hM2]
    exact ((((f1.up _ (by simp [pL])).up _ (by simp [pL])).up _ (by simp [pL])).up _ (by simp [pL])).up _ (by simp [pL])
  have k82 : gI M2 82 t = okT P F T t := by rw [← hM2, gI_ne _ _ _ _ (by decide), gI_ne _ _ _ _ (by decide), gI_ne _ _ _ _ (by decide), gI_ne _ _ _ _ (by decide), gI_eq]
  have k78 : gI M2 78 t = σ.2.2.1 := by rw [← hM2, gI_ne _ _ _ _ (by decide), gI_ne _ _ _ _ (by decide), gI_ne _ _ _ _ (by decide), gI_eq, c6]
  have k79 : gI M2 79 t = σ.2.2.2.1 := by rw [← hM2, gI_ne _ _ _ _ (by decide), gI_ne _ _ _ _ (by decide), gI_eq, c7]
  have k80 : gI M2 80 t = (σ.2.1.length : Int) := by rw [← hM2, gI_ne _ _ _ _ (by decide), gI_eq, c5]
  have k81 : gI M2 81 t = σ.2.2.2.2.1 := by rw [← hM2, gI_eq, c8]
  have k73 : ∀ j, gI M2 73 j = gI M1 73 j := by
    intro j
    rw [← hM2, gI_ne _ _ _ _ (by decide), gI_ne _ _ _ _ (by decide), gI_ne _ _ _ _ (by decide), gI_ne _ _ _ _ (by decide), gI_ne _ _ _ _ (by decide)]
  have k76 : ∀ j, gI M2 76 j = gI M1 76 j := by
    intro j
    rw [← hM2, gI_ne _ _ _ _ (by decide), gI_ne _ _ _ _ (by decide), gI_ne _ _ _ _ (by decide), gI_ne _ _ _ _ (by decide), gI_ne _ _ _ _ (by decide)]
  have k77 : ∀ j, gI M2 77 j = gI M 77 j := by
    intro j
    rw [← hM2, gI_ne _ _ _ _ (by decide), gI_ne _ _ _ _ (by decide), gI_ne _ _ _ _ (by decide), gI_ne _ _ _ _ (by decide), gI_ne _ _ _ _ (by decide)]
    exact hR.fr.g (by simp [pRun])
  clear hM2
  refine fill_r (n := 60) (s0_row a2).1 (s0_row a2).2 (by decide) ?_
  generalize hM3 : pm_nw M2 (101 + t.toNat) (fun j => if j < 60 then (0 : Int) else M2 (101 + t.toNat) j) = M3
  have o3 : ∀ b j, b ≠ 101 + t.toNat → gI M3 b j = gI M2 b j := fun b j hb => by rw [← hM3, gI_nwn _ _ _ hb]
  have f3 : Fr (pL t) M M3 := by
    intro a i z
    have hne : a ≠ 101 + t.toNat := fun e => by subst e; simp [pL] at z
    rw [← hM3, pm_nw_ne hne]; exact f2 a i z
  have z3 : ∀ k, 0 ≤ k → k < 60 → gI M3 (101 + t.toNat) k = 0 := by
    intro k q0 q1
    rw [← hM3, gI_nw]; exact if_pos (by omega)
  clear hM3
  obtain ⟨L, hL⟩ : ∃ L : Int, L = (σ.2.1.length : Int) := ⟨_, rfl⟩
  have hL300 : L ≤ 300 := by have := hok.1; omega
  refine upto (n := L) (I := fun k M4 => Fr (pL t) M M4 ∧ (∀ b j, b ≠ 101 + t.toNat → b ≠ 84 + t.toNat → gI M4 b j = gI M3 b j) ∧ (∀ i : Nat, (i : Int) < k → gI M4 (84 + t.toNat) (i : Int) = σ.2.1.getD i 0) ∧ (∀ j, 0 ≤ j → j < 60 → gI M4 (101 + t.toNat) j = ((σ.2.1.take k.toNat).count j : Int))) (Q := fun k M4 => k6_learnTest_78 t k M4 K) ?_ ?_ 0 M3 (by decide) (by omega) ⟨f3, fun _ _ _ _ => rfl, fun i hi => by omega, fun j j0 j1 => by rw [z3 j j0 j1]; simp⟩
  · intro M4 ⟨f4, o4, tr4, ct4⟩
    have e73 : gI M4 73 5 = L := by rw [o4 _ _ (by omega) (by omega), o3 _ _ (by omega), k73, c5, hL]
    have hRK : ∀ M5, (∀ b j, b ≠ 77 → gI M5 b j = gI M4 b j) → RK1 P F T t M5 := by
      intro M5 h5
      unfold RK1
      rw [hσ, h5 78 _ (by decide), h5 79 _ (by decide), h5 80 _ (by decide), h5 81 _ (by decide), h5 82 _ (by decide)]
      rw [o4 78 _ (by omega) (by omega), o4 79 _ (by omega) (by omega), o4 80 _ (by omega) (by omega), o4 81 _ (by omega) (by omega), o4 82 _ (by omega) (by omega)]
      rw [o3 78 _ (by omega), o3 79 _ (by omega), o3 80 _ (by omega), o3 81 _ (by omega), o3 82 _ (by omega)]
      refine ⟨k78, k79, k80, k81, k82, ?_, ?_⟩
      · intro i hi; rw [h5 _ _ (by omega)]; exact tr4 i (by omega)
      · intro j j0 j1
        rw [h5 _ _ (by omega), ct4 j j0 j1, hL, Int.toNat_natCast, List.take_length]
    have e77 : ∀ j, gI M4 77 j = gI M 77 j := fun j => by rw [o4 _ _ (by omega) (by omega), o3 _ _ (by omega), k77]
    have e739 : gI M4 73 9 = gI M1 73 9 := by rw [o4 _ _ (by omega) (by omega), o3 _ _ (by omega), k73]
    apply k6_learnTest_78_r
    rw [e73, if_neg (by omega)]
    refine ⟨⟨t0, by omega⟩, ?_⟩
    have e4 : gI M4 (20 + t.toNat) 4 = T t 4 := by
      rw [← hT.2.2 t 4 t0 t1 (by decide) (by decide)]
      exact f4.g (by simp [pL, pRun]; omega)
    have e82 : gI M4 82 t = okT P F T t := by rw [o4 _ _ (by omega) (by omega), o3 _ _ (by omega), k82]
    rw [e4, e82]
    obtain ⟨q10, q11, q12, q13⟩ := hC
    have l10 := cn_le (psB P F T 0) t.toNat
    have l11 := cn_le (nfb P F T) t.toNat
    have l12 := cn_le (psB P F T 1) t.toNat
    -- the statements that all failing ones come to
    have keep13 : ¬ nfB P F T t → ∀ s, 0 ≤ s → s < 60 → (bt (gI M 77 13) s ↔ ∀ u, 0 ≤ u → u < t + 1 → nfB P F T u → s ∈ (runP P F (T u)).2.2.2.2.2) := by
      intro hno s s0 s1
      rw [q13 s s0 s1]
      refine ⟨fun h u u0 u1 hu => ?_, fun h u u0 u1 hu => h u u0 (by omega) hu⟩
      by_cases e : u = t
      · subst e; exact absurd hu hno
      · exact h u u0 (by omega) hu
    have other : ∀ M5 (i v : Int), M5 = upI M4 77 i v → ∀ b j, b ≠ 77 → gI M5 b j = gI M4 b j := fun M5 i v h b j hb => by rw [h, gI_ne _ _ _ _ hb]
    by_cases h4 : T t 4 = 1
    · rw [if_pos h4]
      have n0 : psB P F T 0 t = false := by unfold psB hdB; rw [if_pos h4]; simp
      have n1 : nfb P F T t = false := by unfold nfb hdB; rw [if_pos h4]; simp
      have hno : ¬ nfB P F T t := fun z => z.1 h4
      rcases ok01 with z | z
      · rw [z, if_pos rfl]
        have n2 : psB P F T 1 t = false := by unfold psB; rw [z]; simp
        refine hq _ (f4.up _ (by simp [pL])) (hRK _ (other _ _ _ rfl)) ⟨?_, ?_, ?_, ?_⟩
        · rw [gI_nf _ _ (by decide), e77, q10, cn_no t0 n0]
        · rw [gI_nf _ _ (by decide), e77, q11, cn_no t0 n1]
        · rw [gI_eq, e77, q12, cn_no t0 n2, Int.add_zero]; exact w32_id (by omega)
        · rw [gI_nf _ _ (by decide), e77]; exact keep13 hno
      · rw [z, if_neg (by decide)]
        have n2 : psB P F T 1 t = true := by unfold psB hdB; rw [z, if_pos h4]; simp
        refine hq _ (f4.up _ (by simp [pL])) (hRK _ (other _ _ _ rfl)) ⟨?_, ?_, ?_, ?_⟩
        · rw [gI_nf _ _ (by decide), e77, q10, cn_no t0 n0]
        · rw [gI_nf _ _ (by decide), e77, q11, cn_no t0 n1]
        · rw [gI_eq, e77, q12, cn_yes t0 n2]; exact w32_id (by omega)
        · rw [gI_nf _ _ (by decide), e77]; exact keep13 hno
    · rw [if_neg h4]
      have n2 : psB P F T 1 t = false := by unfold psB hdB; rw [if_neg h4]; simp
      rcases ok01 with z | z
      · rw [z, if_pos rfl]
        have n0 : psB P F T 0 t = false := by unfold psB; rw [z]; simp
        have n1 : nfb P F T t = true := by unfold nfb hdB; rw [z, if_neg h4]; simp
        refine hq _ ((f4.up _ (by simp [pL])).up _ (by simp [pL])) (hRK _ (fun b j hb => by rw [gI_ne _ _ _ _ hb, gI_ne _ _ _ _ hb])) ⟨?_, ?_, ?_, ?_⟩
        · rw [gI_nf _ _ (by decide), gI_nf _ _ (by decide), e77, q10, cn_no t0 n0]
        · rw [gI_nf _ _ (by decide), gI_eq, e77, q11, cn_yes t0 n1]; exact w32_id (by omega)
        · rw [gI_nf _ _ (by decide), gI_nf _ _ (by decide), e77, q12, cn_no t0 n2]
        · intro s s0 s1
          rw [gI_eq, bt_and s0 s1, e77, e739, q13 s s0 s1, c9 s s0 s1]
          constructor
          · intro h u u0 u1 hu
            by_cases e : u = t
            · subst e; rw [hσ]; exact h.2
            · exact h.1 u u0 (by omega) hu
          · intro h
            refine ⟨fun u u0 u1 hu => h u u0 (by omega) hu, ?_⟩
            have := h t t0 (by omega) ⟨h4, z⟩
            rw [hσ] at this; exact this
      · rw [z, if_neg (by decide)]
        have n0 : psB P F T 0 t = true := by unfold psB hdB; rw [z, if_neg h4]; simp
        have n1 : nfb P F T t = false := by unfold nfb; rw [z]; simp
        have hno : ¬ nfB P F T t := fun y => by have := y.2; omega
        refine hq _ (f4.up _ (by simp [pL])) (hRK _ (other _ _ _ rfl)) ⟨?_, ?_, ?_, ?_⟩
        · rw [gI_eq, e77, q10, cn_yes t0 n0]; exact w32_id (by omega)
        · rw [gI_nf _ _ (by decide), e77, q11, cn_no t0 n1]
        · rw [gI_nf _ _ (by decide), e77, q12, cn_no t0 n2]
        · rw [gI_nf _ _ (by decide), e77]; exact keep13 hno
  · intro k M4 k0 k1 ⟨f4, o4, tr4, ct4⟩ ih
    have e73 : gI M4 73 5 = L := by rw [o4 _ _ (by omega) (by omega), o3 _ _ (by omega), k73, c5, hL]
    have hkl : k.toNat < σ.2.1.length := by omega
    have e76 : gI M4 76 k = σ.2.1.getD k.toNat 0 := by
      rw [o4 _ _ (by omega) (by omega), o3 _ _ (by omega), k76]
      have := ct k.toNat hkl
      rw [Int.toNat_of_nonneg k0] at this
      exact this
    have hmem : σ.2.1.getD k.toNat 0 ∈ σ.2.1 := by
      rw [List.getD_eq_getElem?_getD, List.getElem?_eq_getElem hkl]
      exact List.getElem_mem hkl
    have hst := htr _ hmem
    have x0 := hst.1
    have x1 := hst.2.1
    apply k6_learnTest_78_r
    rw [e73, if_pos k1, w32_id (show -2147483648 ≤ k + 1 ∧ k + 1 < 2147483648 by omega), e76]
    have ct4' := ct4
    generalize hx : σ.2.1.getD k.toNat 0 = x at *
    refine ⟨⟨t0, by omega⟩, ⟨k0, by omega⟩, ⟨x0, by omega⟩, ?_⟩
    rw [gI_ne _ _ _ _ (show 101 + t.toNat ≠ 84 + t.toNat by omega)]
    have hcx := ct4 x x0 (by omega)
    have hcl : (σ.2.1.take k.toNat).count x ≤ 300 := by
      have h1 : (σ.2.1.take k.toNat).count x ≤ (σ.2.1.take k.toNat).length := List.count_le_length
      have h2 : (σ.2.1.take k.toNat).length ≤ σ.2.1.length := by rw [List.length_take]; omega
      have := hok.1
      omega
    rw [hcx, w32_id (by omega)]
    refine ih _ ⟨(f4.up _ (by simp [pL])).up _ (by simp [pL]), ?_, ?_, ?_⟩
    · intro b j b1 b2; rw [gI_ne _ _ _ _ b1, gI_ne _ _ _ _ b2]; exact o4 b j b1 b2
    · intro i hi
      rw [gI_ne _ _ _ _ (by omega), gI_up _ _ k0 (by omega)]
      by_cases e : (i : Int) = k
      · rw [if_pos e, ← hx]; congr 1; omega
      · rw [if_neg e]; exact tr4 i (by omega)
    · intro j j0 j1
      rw [gI_up _ _ x0 j0, show (k + 1).toNat = k.toNat + 1 by omega, count_take hkl, hx]
      by_cases e : j = x
      · rw [if_pos e, if_pos e.symm, e]; omega
      · rw [if_neg e, if_neg (fun z => e z.symm), gI_ne _ _ _ _ (by omega), ct4 j j0 j1]; omega
/-- what the class knows of the runs -/
def RKs (P : Pg) (F : Fo) (T : Ts) (nT : Int) (M : pm_M) : Prop := (P 2 15 = 0 → gI M 77 10 = 0 ∧ gI M 77 11 = 0 ∧ gI M 77 12 = 0) ∧ (¬ P 2 15 = 0 → (∀ t, 0 ≤ t → t < nT → RK1 P F T t M) ∧ RC P F T nT M)
def pLearn (a i : Nat) : Bool := pRun a i || (78 ≤ a && a ≤ 82) || (84 ≤ a && a ≤ 99) || (101 ≤ a && a ≤ 116) || (a == 77 && (i == 10 || i == 11 || i == 12 || i == 13))
theorem rlearn_r {P : Pg} {F : Fo} {T : Ts} {nT : Int} (hW : WF P) {M : pm_M} {K : pm_M → Prop} (hS : Sm P M) (hF : Fm F M) (hT : CT T nT M)
    (hq : ∀ M', Fr pLearn M M' → RKs P F T nT M' → K M') : k6_learn M K := by
  have hnT := hT.2.1
  apply k6_learn_r
  rw [hS 2 (by decide) (by decide)]
  generalize hM1 : upI (upI (upI (upI M 77 10 0) 77 11 0) 77 12 0) 77 13 (-1) = M1
  have f1 : Fr pLearn M M1 := by
    rw [← hM1]
    exact (((Fr.rf.up _ rfl).up _ rfl).up _ rfl).up _ rfl
  have g10 : gI M1 77 10 = 0 := by rw [← hM1, gI_nf _ _ (by decide), gI_nf _ _ (by decide), gI_nf _ _ (by decide), gI_eq]
  have g11 : gI M1 77 11 = 0 := by rw [← hM1, gI_nf _ _ (by decide), gI_nf _ _ (by decide), gI_eq]
  have g12 : gI M1 77 12 = 0 := by rw [← hM1, gI_nf _ _ (by decide), gI_eq]
  have g13 : gI M1 77 13 = -1 := by rw [← hM1, gI_eq]
  clear hM1
  by_cases hz : P 2 15 = 0
  · rw [if_pos hz]
    exact hq M1 f1 ⟨fun _ => ⟨g10, g11, g12⟩, fun z => absurd hz z⟩
  · rw [if_neg hz]
    have pl : ∀ t, 0 ≤ t → t < 16 → ∀ a i, pL t a i = true → pLearn a i = true := by
      intro t t0 t1 a i h
      simp only [pL, pLearn, pRun, Bool.or_eq_true, Bool.and_eq_true, Bool.not_eq_true', Bool.or_eq_false_iff, beq_eq_false_iff_ne, decide_eq_true_eq, beq_iff_eq] at h ⊢
      omega
    have keep : ∀ M2, Fr pLearn M M2 → Sm P M2 ∧ Fm F M2 ∧ CT T nT M2 := by
      intro M2 f
      refine ⟨f.sm hS (fun a i a1 a2 => by simp [pLearn, pRun]; omega), ⟨?_, ?_, ?_, hF.2.2.2⟩, ⟨?_, hnT, ?_⟩⟩
      · rw [f.g rfl]; exact hF.1
      · rw [f.g rfl]; exact hF.2.1
      · rw [f.g rfl]; exact hF.2.2.1
      · rw [f.g rfl]; exact hT.1
      · intro t j t0 t1 j0 j1
        rw [f.g (by simp [pLearn, pRun]; omega)]; exact hT.2.2 t j t0 t1 j0 j1
    refine upto (n := nT) (I := fun t M2 => Fr pLearn M M2 ∧ (∀ u, 0 ≤ u → u < t → RK1 P F T u M2) ∧ RC P F T t M2) (Q := fun t M2 => k6_learn_35 t M2 K) ?_ ?_ 0 M1 (by decide) (by omega) ⟨f1, fun u u0 u1 => by omega, g10, g11, g12, fun s s0 s1 => ⟨fun _ u u0 u1 => by omega, fun _ => by rw [g13]; exact bt_m1 s0 s1⟩⟩
    · intro M2 ⟨f, hk, hc⟩
      apply k6_learn_35_r
      rw [(keep M2 f).2.2.1, if_neg (by omega)]
      exact hq M2 f ⟨fun z => absurd z hz, fun _ => ⟨hk, hc⟩⟩
    · intro t M2 t0 t1 ⟨f, hk, hc⟩ ih
      obtain ⟨s2, m2, c2⟩ := keep M2 f
      apply k6_learn_35_r
      rw [c2.1, if_pos t1, w32_id (show -2147483648 ≤ t + 1 ∧ t + 1 < 2147483648 by omega)]
      refine learnTest_r hW t0 t1 s2 m2 c2 hc (fun M3 f3 r3 c3 => ih M3 ⟨f.trans (f3.mono (pl t t0 (by omega))), fun u u0 u1 => ?_, c3⟩)
      by_cases e : u = t
      · subst e; exact r3
      · exact (hk u u0 (by omega)).pl f3 u0 (by omega) (by omega)

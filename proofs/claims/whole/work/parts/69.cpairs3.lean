-- needs 30 31 32 33a 33b 33c 33d 33e 33f 33g 33h 33i 33j 40 41 42 43 44 45 46 50 51 52 53 54 55 56 57 58 59 60 61 63 64 65 66 67 68
/-! the class finds the pair -/
def pPf (a i : Nat) : Bool := pPr a i || a == 139 || a == 140 || (a == 138 && (i == 7 || i == 14))
theorem pfind_r {P : Pg} {F : Fo} {T : Ts} {nT : Int} (hW : WF P) {M : pm_M} {K : pm_M → Prop} (hS : Sm P M) (hF : Fm F M) (hT : CT T nT M) (hk : RKs P F T nT M) (hr : RNs P F T nT M) (hn : gI M 138 14 = 0 ∨ gI M 138 14 = 1) (hm : gI M 138 14 = 1 → PF P F T nT (prP P F T nT) M)
    (hq : ∀ M', Fr pPf M M' → gI M' 138 14 = 1 → PF P F T nT (prP P F T nT) M' → K M') : k3_find ((mL P F T nT).length : Int) M K := by
  obtain ⟨hx1, -, ⟨m0, m1, hrk⟩, hst, hsz⟩ := hW.x
  have hnT := hT.2.1
  have h60 := hW.le
  apply k3_find_r
  rcases hn with z | z
  case inr =>
    rw [z, if_neg (by decide)]
    exact hq M Fr.rf z (hm z)
  rw [z, if_pos rfl]
  have f1' : Fr pPf M (upI (upI M 138 14 1) 138 13 0) := (Fr.rf.up _ rfl).up _ rfl
  have e14 : gI (upI (upI M 138 14 1) 138 13 0) 138 14 = 1 := by rw [gI_nf _ _ (by decide), gI_eq]
  have e13 : gI (upI (upI M 138 14 1) 138 13 0) 138 13 = 0 := gI_eq _ _ _ _
  have stop : prP P F T nT = none → K (upI (upI M 138 14 1) 138 13 0) := fun h => hq _ f1' e14 ⟨fun _ => e13, fun a b c d y => by rw [h] at y; simp at y⟩
  by_cases hz : P 2 15 = 0
  · rw [(hk.1 hz).2.1, if_pos rfl]
    exact stop (prP_0 hz)
  obtain ⟨k1, k2⟩ := hk.2 hz
  rw [k2.2.1]
  by_cases ha : allP P F T nT
  · rw [if_pos ((allP_cn hnT.1).mp ha)]
    exact stop (if_pos (Or.inl ha))
  rw [if_neg (fun y => ha ((allP_cn hnT.1).mpr y))]
  by_cases hl : mL P F T nT = []
  case neg =>
    have : 0 < (mL P F T nT).length := List.length_pos_iff.mpr hl
    rw [if_neg (by omega)]
    exact stop (if_pos (Or.inr hl))
  rw [hl]
  rw [if_pos (show (([] : List (Int × Int)).length : Int) ≤ 0 by decide)]
  have hpr : prP P F T nT = f0 P F T nT := if_neg (fun y => y.elim ha (fun w => w hl))
  rw [hpr] at hq
  clear stop
  have hno : ∀ k d, 0 ≤ k → k < P 2 15 → 0 ≤ d → d < chg P k → ¬ allP (pch P k d) F T nT := fun k d a b c d' => no_mend hW ha hl ⟨a, b⟩ ⟨c, d'⟩
  -- behind the suspects: what fails, then the pairs
  have after : ∀ M2, Fr pPf M M2 → gI M2 138 13 = 0 → gI M2 138 14 = 1 → (∀ s, 0 ≤ s → s < 60 → (bt (gI M2 138 7) s ↔ Susp P F T nT s)) → k3_learnWhatFails M2 (fun M4 => k3_find_91 0 M4 K) := by
    intro M2 f2' z13 z14 hsu
    have s2 : Sm P M2 := f2'.sm hS (fun a i a1 a2 => by simp [pPf, pPr, pTry]; omega)
    obtain ⟨m2, t2⟩ := pt_keep f2' ⟨rfl, rfl, rfl, rfl⟩ (fun a i a1 a2 => by simp [pPf, pPr, pTry]; omega) hF hT
    refine learnWhat_r hW s2 m2 t2 hsu (fun M4 f4' hw4 => ?_)
    have f24 : Fr pPf M M4 := f2'.trans (f4'.mono (fun a i h => by
      simp only [pWf, pPf, pPr, pTry, pRun, Bool.or_eq_true, Bool.and_eq_true, Bool.not_eq_true', Bool.or_eq_false_iff, beq_eq_false_iff_ne, beq_iff_eq] at h ⊢
      omega))
    have o4 : ∀ i, gI M4 138 i = gI M2 138 i := fun i => f4'.g (by simp [pWf, pRun])
    have s4 : Sm P M4 := f4'.sm s2 pWf_2
    obtain ⟨m4, t4⟩ := pt_keep f4' ⟨rfl, rfl, rfl, rfl⟩ pWf_20 m2 t2
    refine upto (n := P 2 15) (I := fun n M5 => Fr pPr M4 M5 ∧ gI M5 138 13 = 0 ∧ ∀ e, 0 ≤ e → e < n → f1 P F T nT e = none) (Q := fun n M5 => k3_find_91 n M5 K) ?_ ?_ 0 M4 (by decide) hsz ⟨Fr.rf, by rw [o4]; exact z13, fun e e0 e1 => by omega⟩
    · intro M5 ⟨f5', z5, h5⟩
      apply k3_find_91_r
      rw [(f5'.sm s4 pPr_2) 2 (by decide) (by decide), if_neg (by omega)]
      have e : f0 P F T nT = none := (o1_none _).mpr (fun i i0 i1 => h5 i i0 (by omega))
      rw [e] at hq
      exact hq M5 (f24.trans (f5'.mono (fun a i h => by simp only [pPf, h, Bool.true_or]))) (by rw [f5'.g rfl, o4]; exact z14) ⟨fun _ => z5, fun a b c d y => by simp at y⟩
    · intro n M5 n0 n1 ⟨f5', z5, h5⟩ ih
      have s5 := f5'.sm s4 pPr_2
      obtain ⟨m5, t5⟩ := pt_keep f5' ⟨rfl, rfl, rfl, rfl⟩ pPr_20 m4 t4
      obtain ⟨-, xs, -⟩ := hx1 n n0 n1
      have xk0 : 0 ≤ P 7 n := xs.1
      have xk1 : P 7 n < P 2 15 := xs.2.1
      have e7 : gI M5 138 7 = gI M2 138 7 := by rw [f5'.g rfl, o4]
      have wn : w32 (n + 1) = n + 1 := w32_id (by omega)
      apply k3_find_91_r
      rw [s5 2 (by decide) (by decide), if_pos n1, z5, if_pos rfl, s5 7 (by decide) (by decide), e7, wn]
      refine ⟨⟨n0, by omega⟩, ?_⟩
      have next : f1 P F T nT n = none → ∀ M6, Fr pPr M4 M6 → gI M6 138 13 = 0 → k3_find_91 (n + 1) M6 K := by
        intro h1 M6 f6' z6
        refine ih M6 ⟨f6', z6, fun e e0 e1 => ?_⟩
        by_cases w : e = n
        · subst w; exact h1
        · exact h5 e e0 (by omega)
      have hb := hsu (P 7 n) xk0 (by omega)
      by_cases hbt : bt (gI M2 138 7) (P 7 n)
      case neg =>
        rw [if_neg (fun y => hbt (bt_lcmp.mp y))]
        exact next (if_neg (fun y => hbt (hb.mpr y))) M5 f5' z5
      rw [if_pos (bt_lcmp.mpr hbt)]
      have hwf5 : WFs P F T nT (P 2 15) M5 := by
        intro k q0 q1 hk
        rw [f5'.g rfl]
        obtain ⟨a1, a2, a3⟩ := hw4 k q0 q1 hk
        refine ⟨a1, a2, fun d d0 d1 => ?_⟩
        rw [f5'.g rfl]; exact a3 d d0 d1
      refine tryFirst_r hW ⟨n0, n1⟩ s5 m5 t5 hno (fun s s0 s1 => by rw [e7]; exact hsu s s0 s1) hwf5 (hb.mp hbt) z5 (fun M6 f6' hP6 => ?_)
      have f46 := f5'.trans f6'
      rcases hP6.none' with ⟨e, z6⟩ | ⟨e, z6⟩
      · exact next e M6 f46 z6
      · cases hx : f1 P F T nT n with
        | none => exact absurd hx e
        | some y =>
          have e2 : f0 P F T nT = some y := o1_some _ n n0 (by omega) (fun j j0 j1 => h5 j j0 j1) hx
          rw [hx] at hP6
          rw [e2] at hq
          have hK := hq M6 (f24.trans (f46.mono (fun a i h => by simp only [pPf, h, Bool.true_or]))) (by rw [f46.g rfl, o4]; exact z14) hP6
          apply k3_find_91_r
          rw [z6]
          split
          · rw [if_neg (by decide)]; exact hK
          · exact hK
  -- the suspects
  generalize hM1 : upI (upI (upI M 138 14 1) 138 13 0) 138 7 0 = M1
  have f1'' : Fr pPf M M1 := by rw [← hM1]; exact f1'.up _ rfl
  have g13 : gI M1 138 13 = 0 := by rw [← hM1, gI_nf _ _ (by decide)]; exact e13
  have g14 : gI M1 138 14 = 1 := by rw [← hM1, gI_nf _ _ (by decide)]; exact e14
  have g7 : gI M1 138 7 = 0 := by rw [← hM1, gI_eq]
  clear hM1 f1' e14 e13
  obtain ⟨m, hm'⟩ : ∃ m : Int, m = if 6 ≤ P 2 16 then 6 else P 2 16 := ⟨_, rfl⟩
  have hm6 : m ≤ 6 ∧ m ≤ P 2 16 ∧ 0 ≤ m ∧ (m = 6 ∨ m = P 2 16) := by rw [hm']; split <;> omega
  refine upto (n := m) (I := fun i M2 => Fr pPf M M2 ∧ gI M2 138 13 = 0 ∧ gI M2 138 14 = 1 ∧ ∀ s, 0 ≤ s → s < 60 → (bt (gI M2 138 7) s ↔ ∃ j, 0 ≤ j ∧ j < i ∧ rk P F T nT 1 j = s)) (Q := fun i M2 => k3_find_40 i M2 K) ?_ ?_ 0 M1 (by decide) hm6.2.2.1 ⟨f1'', g13, g14, fun s s0 s1 => by rw [g7]; exact ⟨fun y => absurd y (bt_0 s0 s1), fun ⟨j, j0, j1, _⟩ => by omega⟩⟩
  · intro M2 ⟨f2', z13, z14, hb⟩
    have s2 : Sm P M2 := f2'.sm hS (fun a i a1 a2 => by simp [pPf, pPr, pTry]; omega)
    have hsu : ∀ s, 0 ≤ s → s < 60 → (bt (gI M2 138 7) s ↔ Susp P F T nT s) := by
      intro s s0 s1
      rw [hb s s0 s1]
      constructor
      · intro ⟨j, j0, j1, e⟩; exact ⟨j, j0, by omega, by omega, e⟩
      · intro ⟨j, j0, j1, j2, e⟩; exact ⟨j, j0, by omega, e⟩
    apply k3_find_40_r
    rw [s2 2 (by decide) (by decide)]
    have ha := after M2 f2' z13 z14 hsu
    by_cases y : m < 6
    · rw [if_pos y, if_neg (by omega)]; exact ha
    · rw [if_neg y]; exact ha
  · intro i M2 i0 i1 ⟨f2', z13, z14, hb⟩ ih
    have s2 : Sm P M2 := f2'.sm hS (fun a i a1 a2 => by simp [pPf, pPr, pTry]; omega)
    have e130 : gI M2 130 i = rk P F T nT 1 i := by
      rw [f2'.g rfl, ← hr.2 1 i (by decide) (by decide) i0 (by omega)]; rfl
    have hrs := rk_st hW (F := F) (T := T) (nT := nT) (r := 1) i0 (show i < P 2 16 by omega)
    have r0 := hrs.1
    have r1 := hrs.2.1
    apply k3_find_40_r
    rw [s2 2 (by decide) (by decide), if_pos (by omega), if_pos (by omega), e130, w32_id (show -2147483648 ≤ i + 1 ∧ i + 1 < 2147483648 by omega)]
    refine ⟨⟨i0, by omega⟩, ih _ ⟨f2'.up _ rfl, ?_, ?_, ?_⟩⟩
    · rw [gI_nf _ _ (by decide)]; exact z13
    · rw [gI_nf _ _ (by decide)]; exact z14
    · intro s s0 s1
      rw [gI_eq, bt_or s0 s1 r0 (by omega), hb s s0 s1]
      constructor
      · intro h
        rcases h with h | ⟨j, j0, j1, e⟩
        · exact ⟨i, i0, by omega, h.symm⟩
        · exact ⟨j, j0, by omega, e⟩
      · intro ⟨j, j0, j1, e⟩
        by_cases w : j = i
        · subst w; exact Or.inl e.symm
        · exact Or.inr ⟨j, j0, by omega, e⟩

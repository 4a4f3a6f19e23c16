/-! what holds between two calls; the call that reads a program -/
def TA (M : pm_M) : Prop := (gI M 0 1 = gI M 142 2 ∧ 0 ≤ gI M 0 1 ∧ gI M 0 1 ≤ 600) ∧ ∀ i, 0 ≤ i → i < 600 → gI M 1 i = gI M 143 i ∧ -128 ≤ gI M 1 i ∧ gI M 1 i ≤ 127
def INV (M : pm_M) : Prop := ∃ (P : Pg) (T : Ts) (nT : Int), (WF P ∧ WK P ∧ TI T nT) ∧ CI P T nT M ∧ RI P T nT M ∧ TA M
theorem TA.fr {M M' : pm_M} {p : Nat → Nat → Bool} (h : TA M) (f : Fr p M M') (h1 : p 0 1 = false) (h2 : p 142 2 = false) (h3 : ∀ i, p 1 i = false) (h4 : ∀ i, p 143 i = false) : TA M' := by
  unfold TA
  rw [f.g h1, f.g h2, f.c h3, f.c h4]
  exact h
theorem cR_142 {a i : Nat} (h : cR a i = true) : a < 142 ∧ ¬ (a = 0 ∧ i = 1) ∧ ¬ (36 ≤ a ∧ a ≤ 72) ∧ ¬ a = 1 ∧ ¬ a = 19 := by
  simp only [cR, kR, nR, Bool.or_eq_true, Bool.and_eq_true, beq_iff_eq, decide_eq_true_eq] at h
  omega
theorem rR_142 {a i : Nat} (h : rR a i = true) : 142 ≤ a := by
  simp only [rR, Bool.or_eq_true, Bool.and_eq_true, beq_iff_eq, decide_eq_true_eq] at h
  omega
/-- the reference's state over a reading that fails -/
theorem RI.pf {P : Pg} {T : Ts} {nT : Int} {M M' : pm_M} {p : Nat → Nat → Bool} (h : RI P T nT M) (hW : WF P) (f : Fr p M M') (h1 : ∀ a i, 144 ≤ a → a ≤ 153 → i < 60 → p a i = false) (h2 : p 142 22 = false ∧ p 142 24 = false ∧ p 142 35 = false ∧ p 142 36 = false ∧ p 142 60 = false) (h3 : ∀ a i, (a = 154 ∨ (174 ≤ a ∧ a ≤ 176)) → p a i = false) : RI P T nT M' := by
  obtain ⟨⟨⟨a1, a2, a3⟩, ⟨b1, b2, b3, b4⟩, ⟨c1, c2, c3⟩, d1⟩, hs⟩ := h
  have h60 := hW.1.1
  have lo : ∀ a n, 144 ≤ a → a ≤ 153 → 0 ≤ n → n < P 2 15 → gI M' a n = gI M a n := fun a n x y n0 n1 => f.g (h1 a _ x y (by omega))
  refine ⟨⟨⟨?_, ?_, fun n n0 n1 => ?_⟩, ⟨?_, fun z => absurd z (by decide), ?_, b4⟩, ⟨?_, c2, fun t j t0 t1 j0 j1 => ?_⟩, ?_⟩, hs.fr f h2.2.2.2.2 (fun a i x y => h3 a i (Or.inr ⟨x, y⟩))⟩
  · rw [f.g (h1 144 _ (by decide) (by decide) (by decide))]; exact a1
  · rw [f.g (h1 144 _ (by decide) (by decide) (by decide))]; exact a2
  · rw [lo 145 n (by decide) (by decide) n0 n1, lo 146 n (by decide) (by decide) n0 n1, lo 147 n (by decide) (by decide) n0 n1, lo 148 n (by decide) (by decide) n0 n1, lo 149 n (by decide) (by decide) n0 n1, lo 150 n (by decide) (by decide) n0 n1, lo 151 n (by decide) (by decide) n0 n1, lo 152 n (by decide) (by decide) n0 n1, lo 153 n (by decide) (by decide) n0 n1]
    exact a3 n n0 n1
  · rw [f.g h2.2.2.2.1]; exact b1
  · rw [f.g h2.2.2.1]; exact b3
  · rw [f.g h2.2.1]; exact c1
  · rw [f.g (h3 154 _ (Or.inl rfl))]; exact c3 t j t0 t1 j0 j1
  · rw [f.g h2.1]; exact d1
theorem lp_program {c : Nat} (hc : 153 ≤ c) {N : Int} {M : pm_M} {K : Int → Int → pm_M → Prop} (h : INV M) (hK : ∀ a M2, INV M2 → K a a M2) : k11_program N M (fun r1 M1 => k12_program c N M1 (fun r2 M2 => K r1 r2 M2)) := by
  obtain ⟨P, T, nT, ⟨hW, hWK, hTI⟩, hC, hR, hT⟩ := h
  have hT' := hT
  obtain ⟨⟨ta1, ta2, ta3⟩, tb⟩ := hT'
  have hL : ∀ i, 0 ≤ i → i < 600 → gI M 1 i = gI M 1 i ∧ -128 ≤ gI M 1 i ∧ gI M 1 i ≤ 127 := fun i i0 i1 => ⟨rfl, (tb i i0 i1).2⟩
  have hL3 : ∀ i, 0 ≤ i → i < 600 → gI M 143 i = gI M 1 i ∧ -128 ≤ gI M 1 i ∧ gI M 1 i ≤ 127 := fun i i0 i1 => ⟨(tb i i0 i1).1.symm, (tb i i0 i1).2⟩
  apply k11_program_r
  -- refused
  have no : (N < 0 ∨ gI M 0 1 < N) → k12_program c N M (fun r2 M2 => K (-1) r2 M2) := by
    intro hno
    refine rprogram_r hc (L := gI M 1) (tp := gI M 0 1) ta1.symm ⟨ta2, ta3⟩ hL3 (fun _ => hK _ _ ⟨P, T, nT, ⟨hW, hWK, hTI⟩, ?_, (th0 hR 0).2, ?_⟩) (fun q1 q2 => by omega) (fun q1 q2 => by omega) (fun q1 q2 => by omega)
    · exact hC.fr (p := fun a i => a == 142 && i == 0) (Fr.rf.up _ rfl) (fun a i y => by have := cR_142 y; simp; omega)
    · exact hT.fr (p := fun a i => a == 142 && i == 0) (Fr.rf.up _ rfl) rfl rfl (fun _ => rfl) (fun _ => rfl)
  by_cases n0 : N < 0
  · rw [if_pos n0]; exact no (Or.inl n0)
  rw [if_neg n0]
  by_cases n1 : N ≤ gI M 0 1
  case neg => rw [if_neg n1]; exact no (Or.inr (by omega))
  rw [if_pos n1]
  clear no
  have f0 : Fr (fun a i => a == 0 && i == 1) M (upI M 0 1 0) := Fr.rf.up _ rfl
  have e01 : gI (upI M 0 1 0) 0 1 = 0 := gI_eq _ _ _ _
  generalize upI M 0 1 0 = M0 at *
  have hN : 0 ≤ N ∧ N ≤ 600 := by omega
  have hL0 : ∀ i, 0 ≤ i → i < 600 → gI M0 1 i = gI M 1 i ∧ -128 ≤ gI M 1 i ∧ gI M 1 i ≤ 127 := fun i i0 i1 => ⟨f0.g rfl, (tb i i0 i1).2⟩
  -- behind a reading of the class that leaves its program
  have fault : ∀ (r : Int) (M1 : pm_M), Fr (pRd 36) M0 M1 → (¬ (prg (ub (gI M 1)) N).1.1.2.2.2.2 = 0 → r = w32 ((-2) - (prg (ub (gI M 1)) N).1.1.2.2.2.2)) → ((prg (ub (gI M 1)) N).1.1.2.2.2.2 = 0 → 60 < (prg (ub (gI M 1)) N).1.2.length ∧ r = -4) → k12_program c N M1 (fun r2 M2 => K r r2 M2) := by
    intro r M1 f1 q1 q2
    have fM : Fr (fun a i => (a == 0 && i == 1) || pRd 36 a i) M M1 := (f0.mono (fun a i y => by simp only [y, Bool.true_or])).trans (f1.mono (fun a i y => by simp only [y, Bool.or_true]))
    have c1 : CI P T nT M1 := hC.fr fM (fun a i y => by have := cR_142 y; simp [pRd]; omega)
    have r1 : RI P T nT M1 := hR.fr fM (fun a i y => by have := rR_142 y; simp [pRd]; omega)
    have z1 : gI M1 0 1 = 0 := by rw [f1.g (by simp [pRd])]; exact e01
    have fin : ∀ M2, Fr qPf M1 M2 → gI M2 142 2 = 0 → INV M2 := by
      intro M2 f2 z2
      refine ⟨P, T, nT, ⟨hW, hWK, hTI⟩, c1.fr f2 (fun a i y => by have := cR_142 y; simp [qPf]; omega), r1.pf hW f2 (fun a i x y z => by simp [qPf]; omega) ⟨rfl, rfl, rfl, rfl, rfl⟩ (fun a i y => by simp [qPf]; omega), ⟨?_, ?_, ?_⟩, fun i i0 i1 => ?_⟩
      · rw [z2, f2.g rfl]; exact z1
      · rw [f2.g rfl, z1]; exact Int.le_refl _
      · rw [f2.g rfl, z1]; decide
      · rw [f2.g rfl, f2.g rfl, fM.g rfl, fM.g rfl]; exact tb i i0 i1
    refine rprogram_r hc (L := gI M 1) (tp := gI M 0 1) (by rw [fM.g rfl]; exact ta1.symm) ⟨ta2, ta3⟩ (fun i i0 i1 => by rw [fM.g rfl]; exact hL3 i i0 i1) (fun y => by omega) (fun _ _ z M2 f2 z2 => ?_) (fun _ _ z z60 M2 f2 z2 => ?_) (fun _ _ z z60 => ?_)
    · rw [q1 z]; exact hK _ _ (fin M2 f2 z2)
    · rw [(q2 z).2]; exact hK _ _ (fin M2 f2 z2)
    · have := (q2 z).1; omega
  refine read_r (Or.inr rfl) (L := gI M 1) hN hL0 (fun z M1 f1 => ?_) (fun z z60 M1 f1 => ?_) (fun z z60 M3 f3 _ => ?_)
  · rw [if_neg z]
    exact fault _ M1 f1 (fun _ => rfl) (fun y => absurd y z)
  · rw [if_neg (by decide)]
    have w4 : w32 ((-2) - 2) = -4 := by rw [w32_id (by decide)]; rfl
    rw [w4]
    exact fault _ M1 f1 (fun y => absurd z y) (fun _ => ⟨z60, rfl⟩)
  · rw [if_pos rfl]
    have hL3' : ∀ i, 0 ≤ i → i < 600 → gI M3 1 i = gI M 1 i ∧ -128 ≤ gI M 1 i ∧ gI M 1 i ≤ 127 := fun i i0 i1 => by rw [f3.g (by simp [pRd])]; exact hL0 i i0 i1
    refine read_r (Or.inl rfl) (L := gI M 1) hN hL3' (fun y => absurd z y) (fun _ y => by omega) (fun _ _ M6 f6 pc6 => ?_)
    have fM6 : Fr (fun a i => (a == 0 && i == 1) || pRd 36 a i || pRd 2 a i) M M6 := ((f0.mono (fun a i y => by simp only [y, Bool.true_or])).trans (f3.mono (fun a i y => by simp only [y, Bool.or_true, Bool.true_or]))).trans (f6.mono (fun a i y => by simp only [y, Bool.or_true]))
    rw [show gI M6 2 15 = ((prg (ub (gI M 1)) N).1.2.length : Int) from pc6.1]
    have hw6 := (prg_ok (u := ub (gI M 1)) hN.1).1.2 z
    obtain ⟨⟨hS, hCT, hh, hF⟩, -⟩ := hC
    have t6 : CT T nT M6 := ⟨by rw [fM6.g rfl]; exact hCT.1, hCT.2.1, fun t j t0 t1 j0 j1 => by
      have := hCT.2.1
      rw [fM6.g (by simp [pRd]; omega)]; exact hCT.2.2 t j t0 t1 j0 j1⟩
    have h6 : gI M6 18 2 = cn (hdB T 1) nT.toNat := by rw [fM6.g rfl]; exact hh
    have F6 : Fm Fz M6 := ⟨by rw [fM6.g rfl]; exact hF.1, fun y => absurd y (by decide), by rw [fM6.g rfl]; exact hF.2.2.1, Or.inl rfl⟩
    have s6 : Sm (mkP M6 (prg (ub (gI M 1)) N).2) M6 := fun a a1 a2 => (mkP_lt (by omega)).symm
    have c7 := CI.forget s6 t6 h6 F6
    have f7 : Fr pForget M6 (upI (upI (upI (upI M6 0 14 0) 132 11 0) 138 14 0) 141 3 (-1)) := (((Fr.rf.up _ rfl).up _ rfl).up _ rfl).up _ rfl
    obtain ⟨wf, -⟩ := wf_of hw6.1 z60 pc6
    have z01 : gI M6 0 1 = 0 := by rw [f6.g (by simp [pRd]), f3.g (by simp [pRd])]; exact e01
    generalize upI (upI (upI (upI M6 0 14 0) 132 11 0) 138 14 0) 141 3 (-1) = M7 at *
    have fM7 : Fr (fun a i => (a == 0 && i == 1) || pRd 36 a i || pRd 2 a i || pForget a i) M M7 := (fM6.mono (fun a i y => by simp only [y, Bool.true_or])).trans (f7.mono (fun a i y => by simp only [y, Bool.or_true]))
    have hi : ∀ a i, 142 ≤ a → gI M7 a i = gI M a i := fun a i y => fM7.g (by simp [pRd, pForget]; omega)
    refine rprogram_r hc (L := gI M 1) (tp := gI M 0 1) (by rw [hi _ _ (by decide)]; exact ta1.symm) ⟨ta2, ta3⟩ (fun i i0 i1 => by rw [hi _ _ (by decide)]; exact hL3 i i0 i1) (fun y => by omega) (fun _ _ y => absurd z y) (fun _ _ _ y => by omega) (fun _ _ _ _ M8 f8 z8 pr8 => ?_)
    obtain ⟨rp, r22, rs⟩ := rp_of hw6.1 z60 pc6 pr8
    obtain ⟨⟨-, ⟨b1, -, b3, b4⟩, ⟨d1, d2, d3⟩, -⟩, -⟩ := hR
    have wk : WK (mkP M6 (prg (ub (gI M 1)) N).2) := by
      have e17 : mkP M6 (prg (ub (gI M 1)) N).2 2 17 = 0 := by rw [mkP_lt (show 2 < 18 by decide)]; exact pc6.2.1
      refine ⟨by rw [e17]; decide, fun i i0 i1 => ?_⟩
      rw [e17] at i1; omega
    refine hK _ _ ⟨mkP M6 (prg (ub (gI M 1)) N).2, T, nT, ⟨wf, wk, hTI⟩, c7.fr f8 (fun a i y => by have := cR_142 y; simp [qPr]; omega), ⟨⟨rp, ⟨?_, fun y => absurd y (by decide), ?_, b4⟩, ⟨?_, d2, fun t j t0 t1 j0 j1 => ?_⟩, r22⟩, rs⟩, ⟨?_, ?_, ?_⟩, fun i i0 i1 => ?_⟩
    · rw [f8.g rfl, hi _ _ (by decide)]; exact b1
    · rw [f8.g rfl, hi _ _ (by decide)]; exact b3
    · rw [f8.g rfl, hi _ _ (by decide)]; exact d1
    · rw [f8.g rfl, hi _ _ (by decide)]; exact d3 t j t0 t1 j0 j1
    · rw [z8, f8.g rfl, f7.g rfl]; exact z01
    · rw [f8.g rfl, f7.g rfl, z01]; exact Int.le_refl _
    · rw [f8.g rfl, f7.g rfl, z01]; decide
    · rw [f8.g rfl, f8.g rfl, fM7.g rfl, fM7.g rfl]; exact tb i i0 i1

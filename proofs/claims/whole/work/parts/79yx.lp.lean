/-! the call that reads tests; the call that feeds -/
def mkT (l : List TRow) : Ts := fun t j => if j = 0 then (l.getD t.toNat zT).1 else if j = 1 then (l.getD t.toNat zT).2.1 else if j = 2 then (l.getD t.toNat zT).2.2.1 else if j = 3 then (l.getD t.toNat zT).2.2.2.1 else (l.getD t.toNat zT).2.2.2.2
theorem mkT_at {l : List TRow} {f : Int → Int} {t : Int} (h : f 0 = (l.getD t.toNat zT).1 ∧ f 1 = (l.getD t.toNat zT).2.1 ∧ f 2 = (l.getD t.toNat zT).2.2.1 ∧ f 3 = (l.getD t.toNat zT).2.2.2.1 ∧ f 4 = (l.getD t.toNat zT).2.2.2.2) {j : Int} (j0 : 0 ≤ j) (j5 : j < 5) : f j = mkT l t j := by
  unfold mkT
  by_cases a : j = 0
  · rw [if_pos a, a]; exact h.1
  rw [if_neg a]
  by_cases b : j = 1
  · rw [if_pos b, b]; exact h.2.1
  rw [if_neg b]
  by_cases c : j = 2
  · rw [if_pos c, c]; exact h.2.2.1
  rw [if_neg c]
  by_cases d : j = 3
  · rw [if_pos d, d]; exact h.2.2.2.1
  rw [if_neg d, show j = 4 by omega]; exact h.2.2.2.2
theorem hcl_cn {l : List TRow} (h : ∀ t ∈ l, TR t) : ∀ n : Nat, n ≤ l.length → cn (hdB (mkT l) 1) n = hcl (l.take n) := by
  intro n
  induction n with
  | zero => intro _; rfl
  | succ n ih =>
    intro hn
    have e : l.take (n + 1) = l.take n ++ [l.getD n zT] := by
      rw [List.take_succ, List.getElem?_eq_getElem (by omega), List.getD_eq_getElem?_getD, List.getElem?_eq_getElem (by omega)]; rfl
    have h5 := (h _ (gdM (z := zT) (show n < l.length by omega))).2.2.2.2
    rw [e, hcl_app, ← ih (by omega)]
    show cn (hdB (mkT l) 1) n + (if hdB (mkT l) 1 (n : Int) = true then 1 else 0) = _
    have e4 : mkT l (n : Int) 4 = (l.getD n zT).2.2.2.2 := by
      unfold mkT
      rw [if_neg (by decide), if_neg (by decide), if_neg (by decide), if_neg (by decide), Int.toNat_natCast]
    have e5 : hdB (mkT l) 1 (n : Int) = decide ((if (l.getD n zT).2.2.2.2 = 1 then (1 : Int) else 0) = 1) := by unfold hdB; rw [e4]
    rw [e5]
    rcases h5 with y | y
    · rw [y]; rfl
    · rw [y]; rfl
theorem TI_of {l : List TRow} (h : ∀ t ∈ l, TR t) : TI (mkT l) (l.length : Int) := by
  intro t j t0 t1 j0 j5
  have hr := h _ (gdM (z := zT) (show t.toNat < l.length by omega))
  obtain ⟨a1, a2, a3, a4, a5⟩ := hr
  unfold mkT i32
  split
  · omega
  split
  · omega
  split
  · omega
  split <;> omega
theorem lp_tests {c : Nat} (hc : 51 ≤ c) {N : Int} {M : pm_M} {K : Int → Int → pm_M → Prop} (h : INV M) (hK : ∀ a M2, INV M2 → K a a M2) : k11_tests N M (fun r1 M1 => k12_tests c N M1 (fun r2 M2 => K r1 r2 M2)) := by
  obtain ⟨P, T, nT, ⟨hW, hWK, hTI⟩, hC, hR, hT⟩ := h
  have hT' := hT
  obtain ⟨⟨ta1, ta2, ta3⟩, tb⟩ := hT'
  have hL3 : ∀ i, 0 ≤ i → i < 600 → gI M 143 i = gI M 1 i ∧ -128 ≤ gI M 1 i ∧ gI M 1 i ≤ 127 := fun i i0 i1 => ⟨(tb i i0 i1).1.symm, (tb i i0 i1).2⟩
  apply k11_tests_r
  have no : (N < 0 ∨ gI M 0 1 < N) → k12_tests c N M (fun r2 M2 => K (-1) r2 M2) := by
    intro hno
    refine rtests_r hc (L := gI M 1) (tp := gI M 0 1) ta1.symm ⟨ta2, ta3⟩ hL3 (fun _ => hK _ _ ⟨P, T, nT, ⟨hW, hWK, hTI⟩, ?_, (th0 hR 0).2, ?_⟩) (fun q1 q2 => by omega) (fun q1 q2 => by omega)
    · exact hC.fr (p := fun a i => a == 142 && i == 0) (Fr.rf.up _ rfl) (fun a i y => by have := cR_142 y; simp; omega)
    · exact hT.fr (p := fun a i => a == 142 && i == 0) (Fr.rf.up _ rfl) rfl rfl (fun _ => rfl) (fun _ => rfl)
  by_cases n0 : N < 0
  · rw [if_pos n0]; exact no (Or.inl n0)
  rw [if_neg n0]
  by_cases n1 : N ≤ gI M 0 1
  case neg => rw [if_neg n1]; exact no (Or.inr (by omega))
  rw [if_pos n1]
  clear no
  have f0 : Fr (fun a i => a == 0 && i == 1) M (upI M 0 1 0) := Fr.rf.up _ rfl
  have e01 : gI (upI M 0 1 0) 0 1 = 0 := gI_eq _ _ _ _
  generalize upI M 0 1 0 = M0 at *
  have hN : 0 ≤ N ∧ N ≤ 600 := by omega
  have hL0 : ∀ i, 0 ≤ i → i < 600 → gI M0 1 i = gI M 1 i ∧ -128 ≤ gI M 1 i ∧ gI M 1 i ≤ 127 := fun i i0 i1 => ⟨f0.g rfl, (tb i i0 i1).2⟩
  refine ctests_r (Or.inr rfl) (L := gI M 1) hN hL0 (fun z M1 f1 => ?_) (fun z M3 f3 _ _ => ?_)
  · rw [if_neg z]
    have fM : Fr (fun a i => (a == 0 && i == 1) || pTr 52 a i) M M1 := (f0.mono (fun a i y => by simp only [y, Bool.true_or])).trans (f1.mono (fun a i y => by simp only [y, Bool.or_true]))
    have c1 : CI P T nT M1 := hC.fr fM (fun a i y => by have := cR_142 y; simp [pTr]; omega)
    have r1 : RI P T nT M1 := hR.fr fM (fun a i y => by have := rR_142 y; simp [pTr]; omega)
    have z1 : gI M1 0 1 = 0 := by rw [f1.g (by simp [pTr])]; exact e01
    refine rtests_r hc (L := gI M 1) (tp := gI M 0 1) (by rw [fM.g rfl]; exact ta1.symm) ⟨ta2, ta3⟩ (fun i i0 i1 => by rw [fM.g rfl]; exact hL3 i i0 i1) (fun y => by omega) (fun _ _ _ M2 f2 z2 => ?_) (fun _ _ y => absurd y z)
    refine hK _ _ ⟨P, T, nT, ⟨hW, hWK, hTI⟩, c1.fr f2 (fun a i y => by have := cR_142 y; simp [qTf]; omega), r1.fr f2 (fun a i y => ?_), ⟨?_, ?_, ?_⟩, fun i i0 i1 => ?_⟩
    · simp only [rR, Bool.or_eq_true, Bool.and_eq_true, beq_iff_eq, decide_eq_true_eq] at y
      simp [qTf]; omega
    · rw [z2, f2.g rfl]; exact z1
    · rw [f2.g rfl, z1]; exact Int.le_refl _
    · rw [f2.g rfl, z1]; decide
    · rw [f2.g rfl, f2.g rfl, fM.g rfl, fM.g rfl]; exact tb i i0 i1
  · rw [if_pos rfl]
    have hL3' : ∀ i, 0 ≤ i → i < 600 → gI M3 1 i = gI M 1 i ∧ -128 ≤ gI M 1 i ∧ gI M 1 i ≤ 127 := fun i i0 i1 => by rw [f3.g (by simp [pTr])]; exact hL0 i i0 i1
    refine ctests_r (Or.inl rfl) (L := gI M 1) hN hL3' (fun y => absurd z y) (fun _ M6 f6 su6 tl6 => ?_)
    have fM6 : Fr (fun a i => (a == 0 && i == 1) || pTr 52 a i || pTr 18 a i) M M6 := ((f0.mono (fun a i y => by simp only [y, Bool.true_or])).trans (f3.mono (fun a i y => by simp only [y, Bool.or_true, Bool.true_or]))).trans (f6.mono (fun a i y => by simp only [y, Bool.or_true]))
    rw [show gI M6 18 1 = ((tsL (ub (gI M 1)) N).2.length : Int) from su6.1]
    obtain ⟨⟨hS, hCT, hh, hF⟩, -⟩ := hC
    have s6 : Sm P M6 := fM6.sm hS (fun a i a1 a2 => by simp [pTr]; omega)
    have F6 : Fm Fz M6 := ⟨by rw [fM6.g rfl]; exact hF.1, fun y => absurd y (by decide), by rw [fM6.g rfl]; exact hF.2.2.1, Or.inl rfl⟩
    have z01 : gI M6 0 1 = 0 := by rw [f6.g (by simp [pTr]), f3.g (by simp [pTr])]; exact e01
    have t6' : CT (mkT (tsL (ub (gI M 1)) N).2) ((tsL (ub (gI M 1)) N).2.length : Int) M6 := by
      refine ⟨su6.1, by have := tl6.1; omega, fun t j t0 t1 j0 j1 => ?_⟩
      exact mkT_at (f := gI M6 (20 + t.toNat)) (su6.2.2 t.toNat (by omega)) j0 j1
    have h6 : gI M6 18 2 = cn (hdB (mkT (tsL (ub (gI M 1)) N).2) 1) ((tsL (ub (gI M 1)) N).2.length : Int).toNat := by
      rw [Int.toNat_natCast, hcl_cn tl6.2.1 _ (Nat.le_refl _), List.take_length]; exact su6.2.1
    have c7 := CI.forget s6 t6' h6 F6
    have f7 : Fr pForget M6 (upI (upI (upI (upI M6 0 14 0) 132 11 0) 138 14 0) 141 3 (-1)) := (((Fr.rf.up _ rfl).up _ rfl).up _ rfl).up _ rfl
    have hTI' := TI_of tl6.2.1
    have l16 := tl6.1
    generalize upI (upI (upI (upI M6 0 14 0) 132 11 0) 138 14 0) 141 3 (-1) = M7 at *
    have fM7 : Fr (fun a i => (a == 0 && i == 1) || pTr 52 a i || pTr 18 a i || pForget a i) M M7 := (fM6.mono (fun a i y => by simp only [y, Bool.true_or])).trans (f7.mono (fun a i y => by simp only [y, Bool.or_true]))
    have hi : ∀ a i, 142 ≤ a → gI M7 a i = gI M a i := fun a i y => fM7.g (by simp [pTr, pForget]; omega)
    have r7 : RI P T nT M7 := hR.fr fM7 (fun a i y => by have := rR_142 y; simp [pTr, pForget]; omega)
    refine rtests_r hc (L := gI M 1) (tp := gI M 0 1) (by rw [hi _ _ (by decide)]; exact ta1.symm) ⟨ta2, ta3⟩ (fun i i0 i1 => by rw [hi _ _ (by decide)]; exact hL3 i i0 i1) (fun y => by omega) (fun _ _ y => absurd z y) (fun _ _ _ M8 f8 z8 e24 r8 => ?_)
    obtain ⟨⟨rp, ⟨b1, -, b3, b4⟩, -, d22⟩, rs⟩ := r7
    refine hK _ _ ⟨P, mkT (tsL (ub (gI M 1)) N).2, ((tsL (ub (gI M 1)) N).2.length : Int), ⟨hW, hWK, hTI'⟩, c7.fr f8 (fun a i y => by have := cR_142 y; simp [qTr, qTf]; omega), ⟨⟨f8.rp rp (fun a i x y => by simp [qTr, qTf]; omega), ⟨?_, fun y => absurd y (by decide), ?_, b4⟩, ⟨e24, by omega, fun t j t0 t1 j0 j1 => ?_⟩, ?_⟩, rs.fr f8 rfl (fun a i x y => by simp [qTr, qTf]; omega)⟩, ⟨?_, ?_, ?_⟩, fun i i0 i1 => ?_⟩
    · rw [f8.g rfl]; exact b1
    · rw [f8.g rfl]; exact b3
    · have h9 := r8 t.toNat (by omega)
      rw [Int.toNat_of_nonneg t0] at h9
      refine mkT_at (f := fun j => gI M8 154 (5 * t + j)) ?_ j0 j1
      rw [show 5 * t = 5 * t + 0 by omega] at h9
      simp only [Int.add_zero] at h9 ⊢
      exact h9
    · rw [f8.g rfl]; exact d22
    · rw [z8, f8.g rfl, f7.g rfl]; exact z01
    · rw [f8.g rfl, f7.g rfl, z01]; exact Int.le_refl _
    · rw [f8.g rfl, f7.g rfl, z01]; decide
    · rw [f8.g rfl, f8.g rfl, fM7.g rfl, fM7.g rfl]; exact tb i i0 i1

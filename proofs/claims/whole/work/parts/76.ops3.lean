-- needs 30 31 32 33a 33b 33c 33d 33e 33f 33g 33h 33i 33j 40 41 42 43 44 45 46 50 51 52 53 54 55 56 57 58 59 60 61 62 63 64 65 66 67 68 69 70 71 72 73 74 75
/-! mends, pairs, values, conditions, counts: the same answers -/
theorem mL_len {P : Pg} (hW : WF P) {F : Fo} {T : Ts} {nT : Int} : (mL P F T nT).length ≤ 480 := by
  unfold mL
  by_cases h : allP P F T nT
  · rw [if_pos h]; exact Nat.zero_le _
  · rw [if_neg h]; exact mS_len hW
theorem op_mend {P : Pg} {T : Ts} {nT : Int} (hW : WF P) (hI : TI T nT) (hnT : 0 ≤ nT ∧ nT ≤ 16) (k w : Int) : Same P T nT (k11_mend k w) (k12_mend k w) := by
  have hlen := mL_len hW (F := Fz) (T := T) (nT := nT)
  obtain ⟨L, hL⟩ : ∃ L : Int, L = ((mL P Fz T nT).length : Int) := ⟨_, rfl⟩
  -- the class, the mends known
  have cl : ∀ a, (∀ (M1 : pm_M) (K : Int → pm_M → Prop), CI P T nT M1 → MI P Fz T nT (mL P Fz T nT) M1 → K a M1 → (if k = (-1) then K (gI M1 132 10) M1 else (if k < 0 then K (-1) M1 else (if k < gI M1 132 10 then (if w = 0 then ((0 ≤ k ∧ k < 480) ∧ K (gI M1 133 k) M1) else (if w = 1 then ((0 ≤ k ∧ k < 480) ∧ K (gI M1 134 k) M1) else (if w = 2 then ((0 ≤ k ∧ k < 480) ∧ K (gI M1 135 k) M1) else (if w = 3 then ((0 ≤ k ∧ k < 480) ∧ (if gI M1 135 k < gI M1 18 2 then K 1 M1 else K 0 M1)) else (if w = 4 then ((0 ≤ k ∧ k < 480) ∧ K (gI M1 136 k) M1) else K (-1) M1))))) else K (-1) M1)))) → CSp P T nT (k11_mend k w) a := by
    intro a h M K hC hq
    apply k11_mend_r
    refine learnMends_r hW hI hC (fun M1 f1 c1 e1 e2 => h M1 K c1 (c1.2.2.1.2 e2) (hq M1 f1 c1))
  have re : ∀ a, (∀ (M1 : pm_M) (K : Int → pm_M → Prop), RI P T nT M1 → RMI P Fz T nT (mL P Fz T nT) M1 → K a M1 → (if k = (-1) then K (gI M1 142 50) M1 else (if k < gI M1 142 50 then (if w = 0 then ((0 ≤ k ∧ k < 800) ∧ K (gI M1 165 k) M1) else (if w = 1 then ((0 ≤ k ∧ k < 800) ∧ K (gI M1 166 k) M1) else (if w = 2 then ((0 ≤ k ∧ k < 800) ∧ K (gI M1 167 k) M1) else (if w = 3 then ((0 ≤ k ∧ k < 800) ∧ k12_manyTests 1 M1 (fun r14 M13 => (if gI M1 167 k < r14 then K 1 M13 else K 0 M13))) else ((0 ≤ k ∧ k < 800) ∧ K (gI M1 168 k) M1))))) else K (-1) M1))) → ∀ (M : pm_M) (K : Int → pm_M → Prop), RI P T nT M → (∀ M', Fr qR M M' → RI P T nT M' → K a M') → k12_mend_26 k w (upI M 142 0 0) K := by
    intro a h M K hR hq
    obtain ⟨f0, hR0⟩ := th0 hR 0
    apply k12_mend_26_r
    refine laysMends_r hW hR0.1 (fun M1 f1 i1 => ?_)
    obtain ⟨f1', hR1⟩ := Rq hR0 f1 qp_mds
    exact h M1 K hR1 i1 (hq M1 (f0.trans f1') hR1)
  by_cases h1 : k = -1
  · refine ⟨L, cl L (fun M1 K c1 i1 hK => ?_), fun M K hR hq => ?_⟩
    · rw [if_pos h1, i1.1, ← hL]; exact hK
    · apply k12_mend_r
      rw [if_neg (by omega), if_pos h1]
      refine re L (fun M1 K r1 i1 hK => ?_) M K hR hq
      rw [if_pos h1, i1.1, ← hL]; exact hK
  by_cases h2 : 0 ≤ k ∧ k < L ∧ 0 ≤ w ∧ w ≤ 4
  case neg =>
    refine ⟨-1, cl (-1) (fun M1 K c1 i1 hK => ?_), fun M K hR hq => ?_⟩
    · rw [if_neg h1, i1.1, ← hL]
      by_cases a : k < 0
      · rw [if_pos a]; exact hK
      rw [if_neg a]
      by_cases b : k < L
      · rw [if_pos b, if_neg (by omega), if_neg (by omega), if_neg (by omega), if_neg (by omega), if_neg (by omega)]; exact hK
      · rw [if_neg b]; exact hK
    · have h0 := hq _ (th0 hR 0).1 (th0 hR 0).2
      apply k12_mend_r
      by_cases a : k < -1
      · rw [if_pos a]; exact h0
      rw [if_neg a, if_neg h1]
      by_cases b : w < 0
      · rw [if_pos b]; exact h0
      rw [if_neg b]
      by_cases c : w ≤ 4
      · rw [if_pos c]
        refine re (-1) (fun M1 K r1 i1 hK => ?_) M K hR hq
        rw [if_neg h1, i1.1, ← hL, if_neg (by omega)]; exact hK
      · rw [if_neg c]; exact h0
  obtain ⟨k0, k1, w0, w4⟩ := h2
  obtain ⟨i, rfl⟩ : ∃ i : Nat, k = (i : Int) := ⟨k.toNat, by omega⟩
  have hi : i < (mL P Fz T nT).length := by omega
  refine ⟨if w = 0 then ((mL P Fz T nT).getD i (0, 0)).1 else if w = 1 then ((mL P Fz T nT).getD i (0, 0)).2 else if w = 2 then hcn P Fz T nT ((mL P Fz T nT).getD i (0, 0)) else if w = 3 then (if hcn P Fz T nT ((mL P Fz T nT).getD i (0, 0)) < cn (hdB T 1) nT.toNat then 1 else 0) else (fal P Fz T nT (mL P Fz T nT) i : Int), cl _ (fun M1 K c1 i1 hK => ?_), fun M K hR hq => ?_⟩
  · obtain ⟨a1, a2, a3, a4, -, -⟩ := i1.2 i hi
    rw [if_neg h1, i1.1, ← hL, if_neg (by omega), if_pos k1, a1, a2, a3, a4, c1.1.2.2.1]
    by_cases e0 : w = 0
    · rw [if_pos e0] at hK ⊢; exact ⟨⟨k0, by omega⟩, hK⟩
    rw [if_neg e0] at hK ⊢
    by_cases e1 : w = 1
    · rw [if_pos e1] at hK ⊢; exact ⟨⟨k0, by omega⟩, hK⟩
    rw [if_neg e1] at hK ⊢
    by_cases e2 : w = 2
    · rw [if_pos e2] at hK ⊢; exact ⟨⟨k0, by omega⟩, hK⟩
    rw [if_neg e2] at hK ⊢
    by_cases e3 : w = 3
    · rw [if_pos e3] at hK ⊢; exact ⟨⟨k0, by omega⟩, pm_ifK hK⟩
    rw [if_neg e3] at hK ⊢
    rw [if_pos (by omega)]; exact ⟨⟨k0, by omega⟩, hK⟩
  · apply k12_mend_r
    rw [if_neg (by omega), if_neg h1, if_neg (by omega), if_pos w4]
    refine re _ (fun M1 K r1 i1 hK => ?_) M K hR hq
    obtain ⟨a1, a2, a3, a4, -⟩ := i1.2 i hi
    rw [if_neg h1, i1.1, ← hL, if_pos k1, a1, a2, a3, a4]
    by_cases e0 : w = 0
    · rw [if_pos e0] at hK ⊢; exact ⟨⟨k0, by omega⟩, hK⟩
    rw [if_neg e0] at hK ⊢
    by_cases e1 : w = 1
    · rw [if_pos e1] at hK ⊢; exact ⟨⟨k0, by omega⟩, hK⟩
    rw [if_neg e1] at hK ⊢
    by_cases e2 : w = 2
    · rw [if_pos e2] at hK ⊢; exact ⟨⟨k0, by omega⟩, hK⟩
    rw [if_neg e2] at hK ⊢
    by_cases e3 : w = 3
    · rw [if_pos e3] at hK ⊢
      exact ⟨⟨k0, by omega⟩, manyTests_r (Or.inr rfl) r1.1.2.2.1 (pm_ifK hK)⟩
    rw [if_neg e3] at hK ⊢
    exact ⟨⟨k0, by omega⟩, hK⟩
noncomputable def unB (P : Pg) (T : Ts) (nT k : Int) : Bool := decide ((fal P Fz T nT (mL P Fz T nT) k.toNat : Int) = k)
theorem op_unlike {P : Pg} {T : Ts} {nT : Int} (hW : WF P) (hI : TI T nT) : Same P T nT k11_unlike k12_unlike := by
  have hlen := mL_len hW (F := Fz) (T := T) (nT := nT)
  obtain ⟨L, hL⟩ : ∃ L : Int, L = ((mL P Fz T nT).length : Int) := ⟨_, rfl⟩
  refine ⟨cn (unB P T nT) L.toNat, fun M K hC hq => ?_, fun M K hR hq => ?_⟩
  · apply k11_unlike_r
    refine learnMends_r hW hI hC (fun M1 f1 c1 e1 e2 => ?_)
    have i1 := c1.2.2.1.2 e2
    have hK := hq M1 f1 c1
    apply k2_kinds_r
    refine upto (n := L) (I := fun t (_ : Unit) => True) (Q := fun t _ => k2_kinds_4 (cn (unB P T nT) t.toNat) t M1 _) ?_ ?_ 0 () (by omega) (by omega) trivial
    · intro _ _
      apply k2_kinds_4_r
      rw [i1.1, ← hL, if_neg (by omega)]; exact hK
    · intro t _ t0 t1 _ ih
      have h2 := ih () trivial
      have hc := cn_le (unB P T nT) t.toNat
      obtain ⟨i, rfl⟩ : ∃ i : Nat, t = (i : Int) := ⟨t.toNat, by omega⟩
      obtain ⟨-, -, -, a4, -, -⟩ := i1.2 i (by omega)
      apply k2_kinds_4_r
      rw [i1.1, ← hL, if_pos t1, a4, w32_id (show -2147483648 ≤ (i : Int) + 1 ∧ (i : Int) + 1 < 2147483648 by omega), w32_id (show -2147483648 ≤ cn (unB P T nT) (i : Int).toNat + 1 ∧ cn (unB P T nT) (i : Int).toNat + 1 < 2147483648 by omega)]
      refine ⟨⟨t0, by omega⟩, ?_⟩
      by_cases e : (fal P Fz T nT (mL P Fz T nT) i : Int) = (i : Int)
      · rw [if_pos e]; rw [cn_yes t0 (by unfold unB; rw [Int.toNat_natCast]; exact decide_eq_true e)] at h2; exact h2
      · rw [if_neg e]; rw [cn_no t0 (by unfold unB; rw [Int.toNat_natCast]; exact decide_eq_false e)] at h2; exact h2
  · obtain ⟨f0, hR0⟩ := th0 hR 0
    apply k12_unlike_r
    refine laysMends_r hW hR0.1 (fun M1 f1 i1 => ?_)
    obtain ⟨f1', hR1⟩ := Rq hR0 f1 qp_mds
    have hK := hq M1 (f0.trans f1') hR1
    refine upto (n := L) (I := fun t (_ : Unit) => True) (Q := fun t _ => k12_unlike_13 (cn (unB P T nT) t.toNat) t M1 K) ?_ ?_ 0 () (by omega) (by omega) trivial
    · intro _ _
      apply k12_unlike_13_r
      rw [i1.1, ← hL, if_neg (by omega)]; exact hK
    · intro t _ t0 t1 _ ih
      have h2 := ih () trivial
      have hc := cn_le (unB P T nT) t.toNat
      obtain ⟨i, rfl⟩ : ∃ i : Nat, t = (i : Int) := ⟨t.toNat, by omega⟩
      obtain ⟨-, -, -, a4, -⟩ := i1.2 i (by omega)
      have wz : w32 (cn (unB P T nT) (i : Int).toNat + 0) = cn (unB P T nT) (i : Int).toNat := by rw [Int.add_zero]; exact w32_id (by omega)
      apply k12_unlike_13_r
      rw [i1.1, ← hL, if_pos t1, a4, w32_id (show -2147483648 ≤ (i : Int) + 1 ∧ (i : Int) + 1 < 2147483648 by omega), w32_id (show -2147483648 ≤ cn (unB P T nT) (i : Int).toNat + 1 ∧ cn (unB P T nT) (i : Int).toNat + 1 < 2147483648 by omega), wz]
      refine ⟨⟨t0, by omega⟩, ?_⟩
      by_cases e : (fal P Fz T nT (mL P Fz T nT) i : Int) = (i : Int)
      · rw [if_pos e]; rw [cn_yes t0 (by unfold unB; rw [Int.toNat_natCast]; exact decide_eq_true e)] at h2; exact h2
      · rw [if_neg e]; rw [cn_no t0 (by unfold unB; rw [Int.toNat_natCast]; exact decide_eq_false e)] at h2; exact h2
/-- the first of the fittest -/
noncomputable def bst (h : Nat → Int) : Nat → Int
  | 0 => -1
  | k + 1 => if bst h k = -1 then (k : Int) else if h k ≤ h (bst h k).toNat then bst h k else (k : Int)
theorem bst_rng {h : Nat → Int} : ∀ k : Nat, bst h k = -1 ∨ (0 ≤ bst h k ∧ bst h k < k) := by
  intro k
  induction k with
  | zero => exact Or.inl rfl
  | succ k ih =>
    show (if bst h k = -1 then (k : Int) else if h k ≤ h (bst h k).toNat then bst h k else (k : Int)) = -1 ∨ _
    have e : bst h (k + 1) = (if bst h k = -1 then (k : Int) else if h k ≤ h (bst h k).toNat then bst h k else (k : Int)) := rfl
    rw [e]
    split
    · exact Or.inr ⟨by omega, by omega⟩
    · split
      · exact Or.inr ⟨by omega, by omega⟩
      · exact Or.inr ⟨by omega, by omega⟩
theorem op_best {P : Pg} {T : Ts} {nT : Int} (hW : WF P) (hI : TI T nT) : Same P T nT k11_best k12_best := by
  have hlen := mL_len hW (F := Fz) (T := T) (nT := nT)
  obtain ⟨L, hL⟩ : ∃ L : Int, L = ((mL P Fz T nT).length : Int) := ⟨_, rfl⟩
  obtain ⟨h, hh⟩ : ∃ h : Nat → Int, h = fun i => hcn P Fz T nT ((mL P Fz T nT).getD i (0, 0)) := ⟨_, rfl⟩
  have hs : ∀ k : Nat, bst h (k + 1) = (if bst h k = -1 then (k : Int) else if h k ≤ h (bst h k).toNat then bst h k else (k : Int)) := fun k => rfl
  refine ⟨bst h L.toNat, fun M K hC hq => ?_, fun M K hR hq => ?_⟩
  · apply k11_best_r
    refine learnMends_r hW hI hC (fun M1 f1 c1 e1 e2 => ?_)
    have i1 := c1.2.2.1.2 e2
    have hK := hq M1 f1 c1
    have g : ∀ j : Int, 0 ≤ j → j < L → gI M1 135 j = h j.toNat := fun j j0 j1 => by
      obtain ⟨-, -, a3, -⟩ := i1.2 j.toNat (by omega)
      rw [Int.toNat_of_nonneg j0] at a3
      rw [a3, hh]
    apply k2_fittest_r
    refine upto (n := L) (I := fun t (_ : Unit) => True) (Q := fun t _ => k2_fittest_4 (bst h t.toNat) t M1 _) ?_ ?_ 0 () (by omega) (by omega) trivial
    · intro _ _
      apply k2_fittest_4_r
      rw [i1.1, ← hL, if_neg (by omega)]; exact hK
    · intro t _ t0 t1 _ ih
      have h2 := ih () trivial
      have hr := bst_rng (h := h) t.toNat
      rw [show (t + 1).toNat = t.toNat + 1 by omega, hs, Int.toNat_of_nonneg t0] at h2
      apply k2_fittest_4_r
      rw [i1.1, ← hL, if_pos t1, w32_id (show -2147483648 ≤ t + 1 ∧ t + 1 < 2147483648 by omega)]
      by_cases e : bst h t.toNat = -1
      · rw [if_pos e] at h2 ⊢; exact h2
      · rw [if_neg e] at h2 ⊢
        rw [g t t0 t1, g (bst h t.toNat) (by omega) (by omega)]
        refine ⟨⟨t0, by omega⟩, ⟨by omega, by omega⟩, ?_⟩
        by_cases e2 : h t.toNat ≤ h (bst h t.toNat).toNat
        · rw [if_pos e2] at h2 ⊢; exact h2
        · rw [if_neg e2] at h2 ⊢; exact h2
  · obtain ⟨f0, hR0⟩ := th0 hR 0
    apply k12_best_r
    refine laysMends_r hW hR0.1 (fun M1 f1 i1 => ?_)
    obtain ⟨f1', hR1⟩ := Rq hR0 f1 qp_mds
    have hK := hq M1 (f0.trans f1') hR1
    have g : ∀ j : Int, 0 ≤ j → j < L → gI M1 167 j = h j.toNat := fun j j0 j1 => by
      obtain ⟨-, -, a3, -⟩ := i1.2 j.toNat (by omega)
      rw [Int.toNat_of_nonneg j0] at a3
      rw [a3, hh]
    refine upto (n := L) (I := fun t (_ : Unit) => True) (Q := fun t _ => k12_best_13 (bst h t.toNat) t M1 K) ?_ ?_ 0 () (by omega) (by omega) trivial
    · intro _ _
      apply k12_best_13_r
      rw [i1.1, ← hL, if_neg (by omega)]; exact hK
    · intro t _ t0 t1 _ ih
      have h2 := ih () trivial
      have hr := bst_rng (h := h) t.toNat
      rw [show (t + 1).toNat = t.toNat + 1 by omega, hs, Int.toNat_of_nonneg t0] at h2
      apply k12_best_13_r
      rw [i1.1, ← hL, if_pos t1, w32_id (show -2147483648 ≤ t + 1 ∧ t + 1 < 2147483648 by omega)]
      by_cases e : bst h t.toNat = -1
      · rw [if_pos e] at h2 ⊢; exact h2
      · rw [if_neg e] at h2 ⊢
        rw [g t t0 t1, g (bst h t.toNat) (by omega) (by omega)]
        refine ⟨⟨t0, by omega⟩, ⟨by omega, by omega⟩, ?_⟩
        by_cases e2 : h t.toNat ≤ h (bst h t.toNat).toNat
        · rw [if_pos e2] at h2 ⊢; exact h2
        · rw [if_neg e2] at h2 ⊢; exact h2
theorem op_pair {P : Pg} {T : Ts} {nT : Int} (hW : WF P) (hI : TI T nT) (w : Int) : Same P T nT (k11_pair w) (k12_pair w) := by
  by_cases hw : 0 ≤ w ∧ w ≤ 4
  case neg =>
    refine ⟨-1, fun M K hC hq => ?_, fun M K hR hq => ?_⟩
    · have hK := hq M Fr.rf hC
      apply k11_pair_r
      by_cases a : w < 0
      · rw [if_pos a]; exact hK
      · rw [if_neg a, if_neg (by omega)]; exact hK
    · have h0 := hq _ (th0 hR 0).1 (th0 hR 0).2
      apply k12_pair_r
      by_cases a : w < 0
      · rw [if_pos a]; exact h0
      · rw [if_neg a, if_neg (by omega)]; exact h0
  -- the class, the pair known
  have cl : ∀ a, (∀ (M1 : pm_M) (K : Int → pm_M → Prop), PF P Fz T nT (prP P Fz T nT) M1 → K a M1 → (if gI M1 138 13 = 0 then K (-2) M1 else (if w = 0 then K (gI M1 138 8) M1 else (if w = 1 then K (gI M1 138 9) M1 else (if w = 2 then K (gI M1 138 10) M1 else (if w = 3 then K (gI M1 138 11) M1 else K (gI M1 138 12) M1)))))) → CSp P T nT (k11_pair w) a := by
    intro a h M K hC hq
    apply k11_pair_r
    rw [if_neg (by omega), if_pos hw.2]
    refine learnMends_r hW hI hC (fun M1 f1 c1 e1 e2 => ?_)
    have hC1 := c1
    obtain ⟨⟨hS, hT, hh, hF⟩, ⟨r1, r2⟩, ⟨m1, m2⟩, ⟨q1, q2⟩, hv⟩ := c1
    have hnT := hT.2.1
    rw [(m2 e2).1]
    refine pfind_r hW hS hF hT (r2 e1).1 (r2 e1).2 q1 q2 (fun M2 f2 e4 p2 => ?_)
    refine h M2 K p2 (hq M2 (f1.trans (f2.mono (fun a i h => ?_))) ⟨⟨f2.sm hS (fun a i a1 a2 => by simp [pPf, pPr, pTry]; omega), ⟨by rw [f2.g rfl]; exact hT.1, hnT, fun t j t0 t1 j0 j1 => by rw [f2.g (by simp [pPf, pPr, pTry]; omega)]; exact hT.2.2 t j t0 t1 j0 j1⟩, by rw [f2.g rfl]; exact hh, ⟨by rw [f2.g rfl]; exact hF.1, fun y => absurd y (by decide), by rw [f2.g rfl]; exact hF.2.2.1, Or.inl rfl⟩⟩, ⟨by rw [f2.g rfl]; exact r1, ?_⟩, ⟨by rw [f2.g rfl]; exact m1, ?_⟩, ⟨Or.inr e4, fun _ => p2⟩, ?_⟩)
    · simp only [pPf, pPr, pTry, pC, Bool.or_eq_true, Bool.and_eq_true, Bool.not_eq_true', Bool.or_eq_false_iff, Bool.and_eq_false_iff, beq_eq_false_iff_ne, beq_iff_eq, decide_eq_true_eq] at h ⊢
      omega
    · rw [f2.g rfl]; intro y
      refine ⟨(r2 y).1.fr hnT f2 (fun a i y => ?_), (r2 y).2.fr f2 (fun a i y => ?_)⟩
      · simp only [kR, Bool.or_eq_true, Bool.and_eq_true, beq_iff_eq, decide_eq_true_eq] at y
        simp [pPf, pPr, pTry]; omega
      · simp only [nR, Bool.and_eq_true, decide_eq_true_eq] at y
        simp [pPf, pPr, pTry]; omega
    · rw [f2.g rfl]; intro y
      exact (m2 y).fr f2 rfl (fun a i a1 a2 => by simp [pPf, pPr, pTry]; omega)
    · intro n n0 n1 y
      rw [f2.g rfl] at y
      exact (hv n n0 n1 y).fr f2 ⟨rfl, rfl, rfl, rfl⟩
  cases hp : prP P Fz T nT with
  | none =>
    refine ⟨-2, cl (-2) (fun M1 K p1 hK => ?_), fun M K hR hq => ?_⟩
    · rw [if_pos (p1.1 hp)]; exact hK
    · obtain ⟨f0, hR0⟩ := th0 hR 0
      apply k12_pair_r
      rw [if_neg (by omega), if_pos hw.2]
      refine findsPair_r hW hR0.1 (fun _ M1 f1 => ?_) (fun x hx => by rw [hp] at hx; simp at hx)
      rw [if_pos rfl]
      obtain ⟨f1', hR1⟩ := Rq hR0 f1 (fun _ _ h => h)
      exact hq M1 (f0.trans f1') hR1
  | some x =>
    obtain ⟨n, c, k, d⟩ := x
    refine ⟨if w = 0 then n else if w = 1 then c else if w = 2 then k else if w = 3 then d else cn (psB (pc2 P n c k d) Fz T 1) nT.toNat, cl _ (fun M1 K p1 hK => ?_), fun M K hR hq => ?_⟩
    · obtain ⟨a13, a8, a9, a10, a11, a12⟩ := p1.2 n c k d hp
      rw [a13, if_neg (by decide), a8, a9, a10, a11, a12]
      by_cases e0 : w = 0
      · rw [if_pos e0] at hK ⊢; exact hK
      rw [if_neg e0] at hK ⊢
      by_cases e1 : w = 1
      · rw [if_pos e1] at hK ⊢; exact hK
      rw [if_neg e1] at hK ⊢
      by_cases e2 : w = 2
      · rw [if_pos e2] at hK ⊢; exact hK
      rw [if_neg e2] at hK ⊢
      by_cases e3 : w = 3
      · rw [if_pos e3] at hK ⊢; exact hK
      rw [if_neg e3] at hK ⊢; exact hK
    · obtain ⟨f0, hR0⟩ := th0 hR 0
      apply k12_pair_r
      rw [if_neg (by omega), if_pos hw.2]
      refine findsPair_r hW hR0.1 (fun hn => by rw [hp] at hn; simp at hn) (fun x hx M1 f1 p1 => ?_)
      rw [if_neg (by decide)]
      rw [hp] at hx
      have hx' := Option.some.inj hx
      subst hx'
      obtain ⟨f1', hR1⟩ := Rq hR0 f1 (fun _ _ h => h)
      have hK := hq M1 (f0.trans f1') hR1
      obtain ⟨b0, b1, b2, b3, b4⟩ := p1
      refine ⟨⟨hw.1, by omega⟩, ?_⟩
      by_cases e0 : w = 0
      · rw [if_pos e0] at hK; rw [e0, b0]; exact hK
      rw [if_neg e0] at hK
      by_cases e1 : w = 1
      · rw [if_pos e1] at hK; rw [e1, b1]; exact hK
      rw [if_neg e1] at hK
      by_cases e2 : w = 2
      · rw [if_pos e2] at hK; rw [e2, b2]; exact hK
      rw [if_neg e2] at hK
      by_cases e3 : w = 3
      · rw [if_pos e3] at hK; rw [e3, b3]; exact hK
      rw [if_neg e3] at hK
      rw [show w = 4 by omega, b4]; exact hK

-- needs 30 31 32 33a 33b 33c 33d 33e 33f 33g 33h 33i 33j 40 41 42 43 44 45 46 50 51 52 53 54 55 56 57 58 59 60 61 62 63 64 65 66 67 68 69 70 71 72
/-! what class and reference hold between two calls -/
def kR (a i : Nat) : Bool := (a == 77 && (10 ≤ i && i ≤ 13)) || (78 ≤ a && a ≤ 82) || (84 ≤ a && a ≤ 99) || (101 ≤ a && a ≤ 116)
theorem RKs.fr {P : Pg} {F : Fo} {T : Ts} {nT : Int} {M M' : pm_M} {p : Nat → Nat → Bool} (hnT : 0 ≤ nT ∧ nT ≤ 16) (h : RKs P F T nT M) (f : Fr p M M') (hp : ∀ a i, kR a i = true → p a i = false) : RKs P F T nT M' := by
  have e10 : gI M' 77 10 = gI M 77 10 := f.g (hp _ _ rfl)
  have e11 : gI M' 77 11 = gI M 77 11 := f.g (hp _ _ rfl)
  have e12 : gI M' 77 12 = gI M 77 12 := f.g (hp _ _ rfl)
  have e13 : gI M' 77 13 = gI M 77 13 := f.g (hp _ _ rfl)
  refine ⟨?_, fun z => ⟨fun t t0 t1 => ?_, ?_⟩⟩
  · rw [e10, e11, e12]; exact h.1
  · refine ((h.2 z).1 t t0 t1).fr f (fun a a1 a2 => hp _ _ ?_) (fun i => hp _ _ ?_) (fun i => hp _ _ ?_)
    · simp [kR]; omega
    · simp [kR]; omega
    · simp [kR]; omega
  · unfold RC; rw [e10, e11, e12, e13]; exact (h.2 z).2
def nR (a _i : Nat) : Bool := 118 ≤ a && a ≤ 131
theorem RNs.fr {P : Pg} {F : Fo} {T : Ts} {nT : Int} {M M' : pm_M} {p : Nat → Nat → Bool} (h : RNs P F T nT M) (f : Fr p M M') (hp : ∀ a i, nR a i = true → p a i = false) : RNs P F T nT M' := by
  refine ⟨fun s hs => ?_, fun r i r0 r1 i0 i1 => ?_⟩
  · obtain ⟨a, b, c⟩ := h.1 s hs
    refine ⟨by rw [f.g (hp _ _ rfl)]; exact a, by rw [f.g (hp _ _ rfl)]; exact b, fun r r0 r1 => ?_⟩
    rw [f.g (hp _ _ (by simp [nR]; omega)), f.g (hp _ _ (by simp [nR]; omega))]; exact c r r0 r1
  · rw [f.g (hp _ _ (by simp [nR]; omega))]; exact h.2 r i r0 r1 i0 i1
/-- the stack of what was taken -/
def WK (P : Pg) : Prop := (0 ≤ P 2 17 ∧ P 2 17 ≤ 20) ∧ ∀ i, 0 ≤ i → i < P 2 17 → (0 ≤ P 15 i ∧ P 15 i < P 2 15) ∧ (P 3 (P 15 i) = 5 ∨ P 3 (P 15 i) = 0 → 0 ≤ P 16 i ∧ P 16 i < 9) ∧ (P 3 (P 15 i) = 5 → bi (P 2 18) (P 16 i) = true) ∧ (P 3 (P 15 i) = 7 → 0 ≤ P 16 i ∧ P 16 i ≤ 10) ∧ (P 3 (P 15 i) = 4 → -2147483648 ≤ P 16 i ∧ P 16 i < 2147483648)
/-- the class between two calls -/
def CI (P : Pg) (T : Ts) (nT : Int) (M : pm_M) : Prop := (Sm P M ∧ CT T nT M ∧ gI M 18 2 = cn (hdB T 1) nT.toNat ∧ Fm Fz M) ∧ ((gI M 0 14 = 0 ∨ gI M 0 14 = 1) ∧ (gI M 0 14 = 1 → RKs P Fz T nT M ∧ RNs P Fz T nT M)) ∧ ((gI M 132 11 = 0 ∨ gI M 132 11 = 1) ∧ (gI M 132 11 = 1 → MI P Fz T nT (mL P Fz T nT) M)) ∧ ((gI M 138 14 = 0 ∨ gI M 138 14 = 1) ∧ (gI M 138 14 = 1 → PF P Fz T nT (prP P Fz T nT) M)) ∧ ∀ n, 0 ≤ n → n < P 2 15 → gI M 141 3 = n → VI P Fz T nT n 199 M
def cR (a i : Nat) : Bool := (2 ≤ a && a < 18) || a == 18 || (20 ≤ a && a < 36) || (a == 73 && (i == 10 || i == 12)) || (a == 0 && i == 14) || kR a i || nR a i || (a == 132 && (i == 10 || i == 11)) || (133 ≤ a && a ≤ 137) || (a == 138 && (8 ≤ i && i ≤ 14)) || (a == 141 && (3 ≤ i && i ≤ 7))
theorem cR_k {a i : Nat} (h : kR a i = true) : cR a i = true := by simp only [cR, h, Bool.or_true, Bool.true_or]
theorem cR_n {a i : Nat} (h : nR a i = true) : cR a i = true := by simp only [cR, h, Bool.or_true, Bool.true_or]
theorem CI.fr {P : Pg} {T : Ts} {nT : Int} {M M' : pm_M} {p : Nat → Nat → Bool} (h : CI P T nT M) (f : Fr p M M') (hp : ∀ a i, cR a i = true → p a i = false) : CI P T nT M' := by
  obtain ⟨⟨hS, hT, hh, hF⟩, ⟨r1, r2⟩, ⟨m1, m2⟩, ⟨q1, q2⟩, hv⟩ := h
  have hnT := hT.2.1
  have e14 : gI M' 0 14 = gI M 0 14 := f.g (hp _ _ rfl)
  have e11 : gI M' 132 11 = gI M 132 11 := f.g (hp _ _ rfl)
  have ep : gI M' 138 14 = gI M 138 14 := f.g (hp _ _ rfl)
  have e3 : gI M' 141 3 = gI M 141 3 := f.g (hp _ _ rfl)
  refine ⟨⟨f.sm hS (fun a i a1 a2 => hp _ _ (by simp [cR]; omega)), ⟨?_, hnT, ?_⟩, ?_, ⟨?_, fun z => absurd z (by decide), ?_, Or.inl rfl⟩⟩, ⟨by rw [e14]; exact r1, ?_⟩, ⟨by rw [e11]; exact m1, ?_⟩, ⟨by rw [ep]; exact q1, ?_⟩, ?_⟩
  · rw [f.g (hp _ _ rfl)]; exact hT.1
  · intro t j t0 t1 j0 j1; rw [f.g (hp _ _ (by simp [cR]; omega))]; exact hT.2.2 t j t0 t1 j0 j1
  · rw [f.g (hp _ _ rfl)]; exact hh
  · rw [f.g (hp _ _ rfl)]; exact hF.1
  · rw [f.g (hp _ _ rfl)]; exact hF.2.2.1
  · rw [e14]; intro z; exact ⟨(r2 z).1.fr hnT f (fun a i y => hp _ _ (cR_k y)), (r2 z).2.fr f (fun a i y => hp _ _ (cR_n y))⟩
  · rw [e11]; intro z
    exact (m2 z).fr f (hp _ _ rfl) (fun a i a1 a2 => hp _ _ (by simp [cR]; omega))
  · rw [ep]; intro z
    unfold PF
    rw [f.g (hp 138 13 rfl), f.g (hp 138 8 rfl), f.g (hp 138 9 rfl), f.g (hp 138 10 rfl), f.g (hp 138 11 rfl), f.g (hp 138 12 rfl)]
    exact q2 z
  · intro n n0 n1 z
    rw [e3] at z
    exact (hv n n0 n1 z).fr f ⟨hp _ _ rfl, hp _ _ rfl, hp _ _ rfl, hp _ _ rfl⟩
/-- what the class may write in a call that tells alone -/
def pC (a i : Nat) : Bool := a < 142 && !(a == 1) && !(a == 0 && i == 1)
theorem run_C {M M' : pm_M} (f : Fr pRun M M') : Fr pC M M' := f.mono (fun a i h => by
  simp only [pRun, pC, Bool.or_eq_true, Bool.and_eq_true, Bool.not_eq_true', Bool.or_eq_false_iff, Bool.and_eq_false_iff, beq_eq_false_iff_ne, beq_iff_eq, decide_eq_true_eq] at h ⊢
  omega)
theorem try_C {M M' : pm_M} (f : Fr pTry M M') : Fr pC M M' := f.mono (fun a i h => by
  simp only [pTry, pC, Bool.or_eq_true, Bool.and_eq_true, Bool.not_eq_true', Bool.or_eq_false_iff, Bool.and_eq_false_iff, beq_eq_false_iff_ne, beq_iff_eq, decide_eq_true_eq] at h ⊢
  omega)
theorem run_cR : ∀ a i, cR a i = true → pRun a i = false := fun a i h => by
  simp only [cR, kR, nR, Bool.or_eq_true, Bool.and_eq_true, beq_iff_eq, decide_eq_true_eq] at h
  simp only [pRun, Bool.or_eq_false_iff, Bool.and_eq_false_iff, Bool.not_eq_false', Bool.or_eq_true, beq_eq_false_iff_ne, beq_iff_eq]
  omega
theorem learnRuns_r {P : Pg} {T : Ts} {nT : Int} (hW : WF P) {M : pm_M} {K : pm_M → Prop} (hC : CI P T nT M) (hq : ∀ M', Fr pC M M' → CI P T nT M' → gI M' 0 14 = 1 → K M') : k11_learnRuns M K := by
  apply k11_learnRuns_r
  have hC0 := hC
  obtain ⟨⟨hS, hT, hh, hF⟩, ⟨r1, r2⟩, ⟨m1, m2⟩, ⟨q1, q2⟩, hv⟩ := hC
  have hnT := hT.2.1
  by_cases z : gI M 0 14 = 0
  case neg =>
    rw [if_neg z]
    exact hq M Fr.rf hC0 (by omega)
  rw [if_pos z]
  have f1 : Fr (fun a i => a == 0 && i == 14) M (upI M 0 14 1) := Fr.rf.up _ rfl
  have s1 : Sm P (upI M 0 14 1) := f1.sm hS (fun a i a1 a2 => by simp; omega)
  have e1 : gI (upI M 0 14 1) 0 14 = 1 := gI_eq _ _ _ _
  generalize upI M 0 14 1 = M1 at *
  have t1 : CT T nT M1 := ⟨by rw [f1.g rfl]; exact hT.1, hnT, fun t j t0 t1 j0 j1 => by rw [f1.g (by simp <;> omega)]; exact hT.2.2 t j t0 t1 j0 j1⟩
  have g1 : Fm Fz M1 := ⟨by rw [f1.g rfl]; exact hF.1, fun y => absurd y (by decide), by rw [f1.g rfl]; exact hF.2.2.1, Or.inl rfl⟩
  refine rlearn_r hW s1 g1 t1 (fun M2 f2 k2 => ?_)
  have s2 : Sm P M2 := f2.sm s1 (fun a i a1 a2 => by simp [pLearn, pRun]; omega)
  have t2 : CT T nT M2 := ⟨by rw [f2.g rfl]; exact t1.1, hnT, fun t j t0 t1' j0 j1 => by rw [f2.g (by simp [pLearn, pRun]; omega)]; exact t1.2.2 t j t0 t1' j0 j1⟩
  refine klearn_r hW s2 t2 k2 (fun M3 f3 n3 => ?_)
  have f13 : Fr (fun a i => (a == 0 && i == 14) || pLearn a i || pRank a i) M M3 := ((f1.mono (fun a i h => by simp only [h, Bool.true_or])).trans (f2.mono (fun a i h => by simp only [h, Bool.or_true, Bool.true_or]))).trans (f3.mono (fun a i h => by simp only [h, Bool.or_true]))
  have e3 : gI M3 0 14 = 1 := by rw [f3.g rfl, f2.g rfl]; exact e1
  refine hq M3 (f13.mono (fun a i h => ?_)) ⟨⟨f3.sm s2 (fun a i a1 a2 => by simp [pRank]; omega), ⟨by rw [f3.g rfl]; exact t2.1, hnT, fun t j t0 t1 j0 j1 => by rw [f3.g (by simp [pRank]; omega)]; exact t2.2.2 t j t0 t1 j0 j1⟩, by rw [f13.g rfl]; exact hh, ⟨by rw [f13.g rfl]; exact hF.1, fun y => absurd y (by decide), by rw [f13.g rfl]; exact hF.2.2.1, Or.inl rfl⟩⟩, ⟨Or.inr e3, fun _ => ⟨k2.fr hnT f3 (fun a i y => ?_), n3⟩⟩, ⟨by rw [f13.g rfl]; exact m1, ?_⟩, ⟨by rw [f13.g rfl]; exact q1, ?_⟩, ?_⟩ e3
  · simp only [pLearn, pRank, pRun, pC, Bool.or_eq_true, Bool.and_eq_true, Bool.not_eq_true', Bool.or_eq_false_iff, Bool.and_eq_false_iff, beq_eq_false_iff_ne, beq_iff_eq, decide_eq_true_eq] at h ⊢
    omega
  · simp only [kR, Bool.or_eq_true, Bool.and_eq_true, beq_iff_eq, decide_eq_true_eq] at y
    simp [pRank]; omega
  · rw [f13.g rfl]; intro y
    exact (m2 y).fr f13 rfl (fun a i a1 a2 => by simp [pLearn, pRank, pRun]; omega)
  · rw [f13.g rfl]; intro y
    exact (q2 y).fr f13 (fun i => by simp [pLearn, pRank, pRun])
  · intro n n0 n1 y
    rw [f13.g rfl] at y
    exact (hv n n0 n1 y).fr f13 ⟨rfl, rfl, rfl, rfl⟩
theorem learnMends_r {P : Pg} {T : Ts} {nT : Int} (hW : WF P) (hI : TI T nT) {M : pm_M} {K : pm_M → Prop} (hC : CI P T nT M) (hq : ∀ M', Fr pC M M' → CI P T nT M' → gI M' 0 14 = 1 → gI M' 132 11 = 1 → K M') : k11_learnMends M K := by
  apply k11_learnMends_r
  refine learnRuns_r hW hC (fun M1 f1 c1 e1 => ?_)
  have hC1 := c1
  obtain ⟨⟨hS, hT, hh, hF⟩, ⟨r1, r2⟩, ⟨m1, m2⟩, ⟨q1, q2⟩, hv⟩ := c1
  have hnT := hT.2.1
  refine find_r hW hS hF hT hI (r2 e1).1 (r2 e1).2 m1 m2 (fun M2 f2 e2 i2 => ?_)
  have e14 : gI M2 0 14 = 1 := by rw [f2.g rfl]; exact e1
  refine hq M2 (f1.trans (f2.mono (fun a i h => ?_))) ⟨⟨f2.sm hS (fun a i a1 a2 => by rw [pKeep_2 a i a1 a2]; simp; omega), ⟨by rw [f2.g rfl]; exact hT.1, hnT, fun t j t0 t1 j0 j1 => by rw [f2.g (by rw [pKeep_20 _ _ (by omega) (by omega)]; simp; omega)]; exact hT.2.2 t j t0 t1 j0 j1⟩, by rw [f2.g rfl]; exact hh, ⟨by rw [f2.g rfl]; exact hF.1, fun y => absurd y (by decide), by rw [f2.g rfl]; exact hF.2.2.1, Or.inl rfl⟩⟩, ⟨Or.inr e14, fun _ => ⟨(r2 e1).1.fr hnT f2 (fun a i y => ?_), (r2 e1).2.fr f2 (fun a i y => ?_)⟩⟩, ⟨Or.inr e2, fun _ => i2⟩, ⟨by rw [f2.g rfl]; exact q1, ?_⟩, ?_⟩ e14 e2
  · simp only [pKeep, pTry, pC, Bool.or_eq_true, Bool.and_eq_true, Bool.not_eq_true', Bool.or_eq_false_iff, Bool.and_eq_false_iff, beq_eq_false_iff_ne, beq_iff_eq, decide_eq_true_eq] at h ⊢
    omega
  · simp only [kR, Bool.or_eq_true, Bool.and_eq_true, beq_iff_eq, decide_eq_true_eq] at y
    simp [pKeep, pTry]; omega
  · simp only [nR, Bool.and_eq_true, decide_eq_true_eq] at y
    simp [pKeep, pTry]; omega
  · rw [f2.g rfl]; intro y
    exact (q2 y).fr f2 (fun i => by simp [pKeep, pTry])
  · intro n n0 n1 y
    rw [f2.g rfl] at y
    exact (hv n n0 n1 y).fr f2 ⟨rfl, rfl, rfl, rfl⟩
/-- the reference between two calls -/
def RS (P : Pg) (M : pm_M) : Prop := gI M 142 60 = P 2 17 ∧ ∀ i, 0 ≤ i → i < P 2 17 → gI M 174 i = P 15 i ∧ (P 3 (P 15 i) = 0 ∨ P 3 (P 15 i) = 4 ∨ P 3 (P 15 i) = 5 ∨ P 3 (P 15 i) = 7 → gI M 175 i = P 16 i) ∧ (P 3 (P 15 i) = 7 → gI M 176 i = 0 ∨ gI M 176 i = 4) ∧ (P 3 (P 15 i) ≠ 7 → 0 ≤ gI M 176 i ∧ gI M 176 i < 4) ∧ P 17 i = cm (gI M 176 i)
def RI (P : Pg) (T : Ts) (nT : Int) (M : pm_M) : Prop := RB P Fz T nT M ∧ RS P M
def rR (a i : Nat) : Bool := (144 ≤ a && a < 155) || (a == 142 && (i == 22 || i == 24 || i == 35 || i == 36 || i == 60)) || (174 ≤ a && a ≤ 176)
theorem RS.fr {P : Pg} {M M' : pm_M} {p : Nat → Nat → Bool} (h : RS P M) (f : Fr p M M') (h0 : p 142 60 = false) (h1 : ∀ a i, 174 ≤ a → a ≤ 176 → p a i = false) : RS P M' := by
  unfold RS
  rw [f.g h0, f.c (fun i => h1 174 i (by decide) (by decide)), f.c (fun i => h1 175 i (by decide) (by decide)), f.c (fun i => h1 176 i (by decide) (by decide))]
  exact h
theorem RI.fr {P : Pg} {T : Ts} {nT : Int} {M M' : pm_M} {p : Nat → Nat → Bool} (h : RI P T nT M) (f : Fr p M M') (hp : ∀ a i, rR a i = true → p a i = false) : RI P T nT M' := by
  obtain ⟨⟨a1, ⟨b1, b2, b3, b4⟩, ⟨c1, c2, c3⟩, d1⟩, hs⟩ := h
  refine ⟨⟨f.rp a1 (fun a i x y => hp _ _ (by simp [rR]; omega)), ⟨by rw [f.g (hp _ _ rfl)]; exact b1, fun z => absurd z (by decide), by rw [f.g (hp _ _ rfl)]; exact b3, b4⟩, ⟨by rw [f.g (hp _ _ rfl)]; exact c1, c2, fun t j t0 t1 j0 j1 => by rw [f.g (hp _ _ rfl)]; exact c3 t j t0 t1 j0 j1⟩, by rw [f.g (hp _ _ rfl)]; exact d1⟩, hs.fr f (hp _ _ rfl) (fun a i x y => hp _ _ (by simp [rR]; omega))⟩
/-- what the reference may write in a call that tells alone -/
def qR (a i : Nat) : Bool := (142 ≤ a && a ≤ 176) && !(a == 143) && !(a == 142 && i == 2)
/-- a call that tells alone: the class answers so, the reference answers so -/
def CSp (P : Pg) (T : Ts) (nT : Int) (k : pm_M → (Int → pm_M → Prop) → Prop) (a : Int) : Prop := ∀ (M : pm_M) (K : Int → pm_M → Prop), CI P T nT M → (∀ M', Fr pC M M' → CI P T nT M' → K a M') → k M K
def RSp (P : Pg) (T : Ts) (nT : Int) (k : pm_M → (Int → pm_M → Prop) → Prop) (a : Int) : Prop := ∀ (M : pm_M) (K : Int → pm_M → Prop), RI P T nT M → (∀ M', Fr qR M M' → RI P T nT M' → K a M') → k M K
/-- the same answer -/
def Same (P : Pg) (T : Ts) (nT : Int) (k k' : pm_M → (Int → pm_M → Prop) → Prop) : Prop := ∃ a, CSp P T nT k a ∧ RSp P T nT k' a
theorem th0 {P : Pg} {T : Ts} {nT : Int} {M : pm_M} (h : RI P T nT M) (v : Int) : Fr qR M (upI M 142 0 v) ∧ RI P T nT (upI M 142 0 v) := ⟨Fr.rf.up _ rfl, h.fr (p := fun a i => a == 142 && i == 0) (Fr.rf.up _ rfl) (fun a i y => by
  simp only [rR, Bool.or_eq_true, Bool.and_eq_true, beq_iff_eq, decide_eq_true_eq] at y
  simp; omega)⟩

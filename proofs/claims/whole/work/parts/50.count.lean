-- needs 30 31 32 33a 33b 33c 33d 33e 33f 33g 33h 33i 33j 40 41 42 43 44 45 46
/-! how many tests pass, whether all do -/
abbrev Ts : Type := Int → Int → Int
def CT (T : Ts) (nT : Int) (M : pm_M) : Prop := gI M 18 1 = nT ∧ (0 ≤ nT ∧ nT ≤ 16) ∧ (∀ t j, 0 ≤ t → t < nT → 0 ≤ j → j < 5 → gI M (20 + t.toNat) j = T t j)
def RT (T : Ts) (nT : Int) (M : pm_M) : Prop := gI M 142 24 = nT ∧ (0 ≤ nT ∧ nT ≤ 16) ∧ (∀ t j, 0 ≤ t → t < nT → 0 ≤ j → j < 5 → gI M 154 (5 * t + j) = T t j)
theorem vr0_eq {r r' : Int → Int} (h : ∀ j, 0 ≤ j → j < 3 → r j = r' j) : vr0 r = vr0 r' := by
  funext j
  unfold vr0
  by_cases hj : j.toNat < 3
  · rw [if_pos hj, if_pos hj]; exact h _ (Int.natCast_nonneg _) (by omega)
  · rw [if_neg hj, if_neg hj]
theorem runP_eq {P : Pg} {F : Fo} {r r' : Int → Int} (h : ∀ j, 0 ≤ j → j < 3 → r j = r' j) : runP P F r = runP P F r' := by
  unfold runP; rw [vr0_eq h]
theorem CT.off {T : Ts} {nT : Int} {M M' : pm_M} {l : List Nat} (h : CT T nT M) (ho : Off l M M') (hl : ∀ a ∈ l, ¬ (18 ≤ a ∧ a < 36)) : CT T nT M' := by
  refine ⟨?_, h.2.1, fun t j t0 t1 j0 j1 => ?_⟩
  · rw [ho.g (fun z => hl 18 z ⟨by decide, by decide⟩)]; exact h.1
  · have := h.2.1
    rw [ho.g (fun z => hl _ z ⟨by omega, by omega⟩)]; exact h.2.2 t j t0 t1 j0 j1
theorem CT.run {T : Ts} {nT : Int} {M : pm_M} (h : CT T nT M) {P : Pg} {F : Fo} {t : Int} (t0 : 0 ≤ t) (t1 : t < nT) : runP P F (gI M (20 + t.toNat)) = runP P F (T t) := runP_eq (fun j j0 j1 => h.2.2 t j t0 t1 j0 (by omega))
theorem RT.run {T : Ts} {nT : Int} {M : pm_M} (h : RT T nT M) {P : Pg} {F : Fo} {t : Int} (t0 : 0 ≤ t) (t1 : t < nT) : runP P F (rrow M t) = runP P F (T t) := runP_eq (fun j j0 j1 => by
  unfold rrow
  rw [Int.toNat_of_nonneg j0]
  exact h.2.2 t j t0 t1 j0 (by omega))
theorem RT.due {T : Ts} {nT : Int} {M : pm_M} (h : RT T nT M) {t : Int} (t0 : 0 ≤ t) (t1 : t < nT) : rrow M t 3 = T t 3 := h.2.2 t 3 t0 t1 (by decide) (by decide)
theorem RT.qf {T : Ts} {nT : Int} {M M' : pm_M} (h : RT T nT M) (hQ : Qf M M') : RT T nT M' := by
  refine ⟨(hQ.2 24 (by decide) (by decide) (by decide) (by decide) (by decide) (by decide)).trans h.1, h.2.1, fun t j t0 t1 j0 j1 => ?_⟩
  rw [hQ.1.g (by decide)]; exact h.2.2 t j t0 t1 j0 j1
theorem okP_01 (σ : Sg) (d : Int) : okP σ d = 0 ∨ okP σ d = 1 := by
  unfold okP
  split
  · split
    · exact Or.inr rfl
    · exact Or.inl rfl
  · exact Or.inl rfl
/-- whether a test passes -/
noncomputable def okT (P : Pg) (F : Fo) (T : Ts) (t : Int) : Int := okP (runP P F (T t)) (T t 3)
def cn (f : Int → Bool) : Nat → Int
  | 0 => 0
  | n + 1 => cn f n + (if f (n : Int) = true then 1 else 0)
theorem cn_le (f : Int → Bool) : ∀ n, 0 ≤ cn f n ∧ cn f n ≤ n := by
  intro n
  induction n with
  | zero => exact ⟨Int.le_refl _, Int.le_refl _⟩
  | succ n ih =>
    show 0 ≤ cn f n + (if f (n : Int) = true then 1 else 0) ∧ cn f n + (if f (n : Int) = true then 1 else 0) ≤ ((n + 1 : Nat) : Int)
    split <;> omega
def hdB (T : Ts) (b t : Int) : Bool := decide ((if T t 4 = 1 then (1 : Int) else 0) = b)
noncomputable def psB (P : Pg) (F : Fo) (T : Ts) (b t : Int) : Bool := hdB T b t && decide (okT P F T t = 1)
def allP (P : Pg) (F : Fo) (T : Ts) (nT : Int) : Prop := ∀ t, 0 ≤ t → t < nT → ¬ T t 4 = 1 → okT P F T t = 1
theorem cpasses_r {P : Pg} {F : Fo} {T : Ts} {nT : Int} (hW : PWr P) {t : Int} (t0 : 0 ≤ t) (t1 : t < nT) {M : pm_M} {K : Int → pm_M → Prop} (hS : Sm P M) (hF : Fm F M) (hT : CT T nT M)
    (hq : ∀ M', Rf M M' → Cr (runP P F (T t)) M' → K (okT P F T t) M') : k1_passes t M K := by
  have := hT.2.1
  refine passes_r hW ⟨t0, by omega⟩ hS hF (fun M' hR hC => ?_)
  rw [hT.run t0 t1] at hC ⊢
  rw [hT.2.2 t 3 t0 t1 (by decide) (by decide)]
  exact hq M' hR hC
theorem Rf.ct {M M' : pm_M} {T : Ts} {nT : Int} (h : Rf M M') (hT : CT T nT M) : CT T nT M' := hT.off h.1 (by decide)
theorem countPassing_r {P : Pg} {F : Fo} {T : Ts} {nT : Int} (hW : PWr P) {b : Int} (hb : b = 0 ∨ b = 1) {M : pm_M} {K : Int → pm_M → Prop} (hS : Sm P M) (hF : Fm F M) (hT : CT T nT M)
    (hq : ∀ M', Rf M M' → K (cn (psB P F T b) nT.toNat) M') : k1_countPassing b M K := by
  apply k1_countPassing_r
  have hnT := hT.2.1
  have loop : ∀ (n : Nat) (t : Int) (M1 : pm_M), t + n = nT → 0 ≤ t → Rf M M1 → k1_countPassing_4 b (cn (psB P F T b) t.toNat) t M1 K := by
    intro n
    induction n with
    | zero =>
      intro t M1 ht t0 hR
      apply k1_countPassing_4_r
      rw [(hR.ct hT).1, if_neg (by omega)]
      have : t = nT := by omega
      rw [this]
      exact hq M1 hR
    | succ n ih =>
      intro t M1 ht t0 hR
      apply k1_countPassing_4_r
      have hT1 := hR.ct hT
      rw [hT1.1, if_pos (by omega), w32_id (show -2147483648 ≤ t + 1 ∧ t + 1 < 2147483648 by omega)]
      have hc := cn_le (psB P F T b) t.toNat
      rw [w32_id (show -2147483648 ≤ cn (psB P F T b) t.toNat + 1 ∧ cn (psB P F T b) t.toNat + 1 < 2147483648 by omega)]
      refine ⟨⟨t0, by omega⟩, ?_⟩
      rw [hT1.2.2 t 4 t0 (by omega) (by decide) (by decide)]
      have hsucc : cn (psB P F T b) (t + 1).toNat = cn (psB P F T b) t.toNat + (if psB P F T b t = true then 1 else 0) := by
        rw [show (t + 1).toNat = t.toNat + 1 by omega]
        show cn (psB P F T b) t.toNat + (if psB P F T b ((t.toNat : Nat) : Int) = true then 1 else 0) = _
        rw [Int.toNat_of_nonneg t0]
      have no : hdB T b t = false → k1_countPassing_4 b (cn (psB P F T b) t.toNat) (t + 1) M1 K := by
        intro h
        have h2 := ih (t + 1) M1 (by omega) (by omega) hR
        rw [hsucc] at h2
        unfold psB at h2
        rw [h] at h2
        simp only [Bool.false_and, Bool.false_eq_true, if_false, Int.add_zero] at h2
        exact h2
      have yes : hdB T b t = true → k1_passes t M1 (fun r6 M5 => (if r6 = 0 then k1_countPassing_4 b (cn (psB P F T b) t.toNat) (t + 1) M5 K else k1_countPassing_4 b (cn (psB P F T b) t.toNat + 1) (t + 1) M5 K)) := by
        intro h
        refine cpasses_r hW t0 (show t < nT by omega) (hR.sm hS) (hR.fm hF) hT1 (fun M' hR' _ => ?_)
        have h2 := ih (t + 1) M' (by omega) (by omega) (hR.trans hR')
        rw [hsucc] at h2
        rcases okP_01 (runP P F (T t)) (T t 3) with z | z
        · have z' : okT P F T t = 0 := z
          rw [z', if_pos rfl]
          have : psB P F T b t = false := by unfold psB; rw [z']; simp
          rw [this] at h2
          simp only [Bool.false_eq_true, if_false, Int.add_zero] at h2
          exact h2
        · have z' : okT P F T t = 1 := z
          rw [z', if_neg (by decide)]
          have : psB P F T b t = true := by unfold psB; rw [z', h]; simp
          rw [this, if_pos rfl] at h2
          exact h2
      by_cases h4 : T t 4 = 1
      · rw [if_pos h4]
        by_cases hb1 : 1 = b
        · rw [if_pos hb1]; exact yes (by unfold hdB; rw [if_pos h4]; simp [hb1])
        · rw [if_neg hb1]; exact no (by unfold hdB; rw [if_pos h4]; simp [hb1])
      · rw [if_neg h4]
        by_cases hb1 : 0 = b
        · rw [if_pos hb1]; exact yes (by unfold hdB; rw [if_neg h4]; simp [hb1])
        · rw [if_neg hb1]; exact no (by unfold hdB; rw [if_neg h4]; simp [hb1])
  exact loop nT.toNat 0 M (by omega) (by decide) Rf.rf

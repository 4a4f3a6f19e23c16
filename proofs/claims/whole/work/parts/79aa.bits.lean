-- needs 30 31 32 33a 33b 33c 33d 33e 33f 33g 33h 33i 33j 40 41 42 43 44 45 46 50 51 52 53 54 79a
/-! a bit set in a number of nine bits -/
theorem bi_or {x v w : Int} (hx : 0 ≤ x ∧ x < 512) (hv : 0 ≤ v ∧ v < 9) (hw : 0 ≤ w ∧ w < 9) : (0 ≤ pm_ior x (pm_ishl 1 v) ∧ pm_ior x (pm_ishl 1 v) < 512) ∧ (bi (pm_ior x (pm_ishl 1 v)) w = true ↔ w = v ∨ bi x w = true) := by
  obtain ⟨a, rfl⟩ : ∃ k : Nat, x = (k : Int) := ⟨x.toNat, by omega⟩
  obtain ⟨b, rfl⟩ : ∃ k : Nat, v = (k : Int) := ⟨v.toNat, by omega⟩
  obtain ⟨c, rfl⟩ : ∃ k : Nat, w = (k : Int) := ⟨w.toNat, by omega⟩
  have ha : a < 512 := by omega
  have hb : b < 9 := by omega
  have hc : c < 9 := by omega
  have key : ∀ b : Nat, b < 9 → ∀ a : Nat, a < 512 → (0 ≤ pm_ior (a : Int) (pm_ishl 1 (b : Int)) ∧ pm_ior (a : Int) (pm_ishl 1 (b : Int)) < 512) ∧ ∀ c : Nat, c < 9 → (bi (pm_ior (a : Int) (pm_ishl 1 (b : Int))) (c : Int) = (decide (c = b) || bi (a : Int) (c : Int))) := by decide +kernel
  obtain ⟨k1, k2⟩ := key b hb a ha
  refine ⟨k1, ?_⟩
  rw [k2 c hc, Bool.or_eq_true, decide_eq_true_eq]
  constructor
  · intro h; rcases h with h | h
    · exact Or.inl (by omega)
    · exact Or.inr h
  · intro h; rcases h with h | h
    · exact Or.inl (by omega)
    · exact Or.inr h

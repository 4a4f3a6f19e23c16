-- needs 30 31 32 33a 33b 33c 33d 33e 33f 33g 33h 33i 33j 40 41 42 43 44 45 46 50 51 52 53 54 79a 79aa 79b 79c 79d 79e 79g 79h 79i 79j 79k 79l
/-! the reference reads parts -/
theorem tk3 {t : Int} (h : 0 ≤ t ∧ t ≤ 5) : (tkR t = 2 ↔ t = 3) ∧ (tkR t = 3 ↔ t = 4 ∨ t = 5) := by
  obtain ⟨k, rfl⟩ : ∃ k : Nat, t = (k : Int) := ⟨t.toNat, by omega⟩
  have key : ∀ k : Nat, k ≤ 5 → (tkR (k : Int) = 2 ↔ (k : Int) = 3) ∧ (tkR (k : Int) = 3 ↔ (k : Int) = 4 ∨ (k : Int) = 5) := by decide
  exact key k (by omega)
theorem vcd45 {c : Int} (h : 0 ≤ c ∧ c ≤ 10) : (vcd c = 45 ↔ c = 1) ∧ ¬ vcd c = 40 ∧ ¬ vcd c = 41 ∧ ¬ vcd c = 61 ∧ ¬ vcd c = 59 ∧ ¬ vcd c = 123 ∧ ¬ vcd c = 125 := by
  obtain ⟨k, rfl⟩ : ∃ k : Nat, c = (k : Int) := ⟨c.toNat, by omega⟩
  have key : ∀ k : Nat, k ≤ 10 → (vcd (k : Int) = 45 ↔ (k : Int) = 1) ∧ ¬ vcd (k : Int) = 40 ∧ ¬ vcd (k : Int) = 41 ∧ ¬ vcd (k : Int) = 61 ∧ ¬ vcd (k : Int) = 59 ∧ ¬ vcd (k : Int) = 123 ∧ ¬ vcd (k : Int) = 125 := by decide
  exact key k (by omega)
/-- a mark asked for: there, and on; or not -/
theorem signL {L : Int → Int} {N d c : Int} {S : Ps} {M : pm_M} {K : Int → pm_M → Prop} (hc : c = 40 ∨ c = 41 ∨ c = 61 ∨ c = 59 ∨ c = 123 ∨ c = 125) (hv : LV L N d S M)
    (h1 : S.1.2.2.1 = 5 → S.1.2.2.2.1 = c → (adv (ub L) N S.1).2.2.2.2 = 0 → ∀ M', Fr q7 M M' → LV L N d (adv (ub L) N S.1, S.2) M' → K 1 M')
    (h2 : S.1.2.2.1 = 5 → S.1.2.2.2.1 = c → ¬ (adv (ub L) N S.1).2.2.2.2 = 0 → ∀ M', Fr q7 M M' → TpR L N M' → Pnd M' (adv (ub L) N S.1).2.1 → (adv (ub L) N S.1).2.2.2.2 = 8 * (adv (ub L) N S.1).2.1 + 1 → K 1 M')
    (h3 : ¬ (S.1.2.2.1 = 5 ∧ S.1.2.2.2.1 = c) → K 0 (upI M 142 8 (8 * S.1.2.1 + 1))) : k12_sign c M K := by
  obtain ⟨⟨hT, hr, hR⟩, hw, e8, e20, h0, hS, hl, hpl⟩ := hv
  have n6 := hT.2.1.2
  have hpp := hS.1
  have ty := hS.2.2.2.2.2.1
  have bad : ¬ (S.1.2.2.1 = 5 ∧ S.1.2.2.2.1 = c) → (if gI M 142 8 = 0 then K 0 (upI M 142 8 (w32 ((w32 (8 * (gI M 142 4))) + 1))) else K 0 (upI M 142 8 (gI M 142 8))) := by
    intro h
    rw [e8, if_pos rfl, hr.2.1, bad_w ⟨by omega, by omega⟩ 1 (by decide)]
    exact h3 h
  apply k12_sign_r
  rw [hr.2.2.1]
  by_cases a : tkR S.1.2.2.1 = 3
  · rw [if_pos a]
    rcases (tk3 ty).2.mp a with t | t
    · have hv4 := hS.2.2.2.2.1 t
      have hn := vcd45 hv4
      rw [hr.2.2.2.2.1 t]
      have hne : ¬ vcd S.1.2.2.2.1 = c := by
        rcases hc with rfl | rfl | rfl | rfl | rfl | rfl
        · exact hn.2.1
        · exact hn.2.2.1
        · exact hn.2.2.2.1
        · exact hn.2.2.2.2.1
        · exact hn.2.2.2.2.2.1
        · exact hn.2.2.2.2.2.2
      rw [if_neg hne]
      exact bad (fun z => by omega)
    · rw [hr.2.2.2.2.2 t]
      by_cases b : S.1.2.2.2.1 = c
      · rw [if_pos b]
        exact goL (d := d) (s := S.1) (l := S.2) hT hr.1 hS h0 (by omega) (by omega) hR hw e8 e20 (h1 t b) (h2 t b)
      · rw [if_neg b]; exact bad (fun z => b z.2)
  · rw [if_neg a]
    exact bad (fun z => a ((tk3 ty).2.mpr (Or.inr z.1)))

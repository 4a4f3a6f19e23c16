-- needs 30 31 32 33a 33b 33c 33d 33e 33f 33g 33h 33i 33j 40 41 42 43 44 45 46 50 51 52 53 54 79a 79aa 79b 79c 79d 79e 79g
/-! the reference reads expressions: signs, wrong tokens -/
def so (a : Int) : Int := if a = 37 then 4 else if a = 42 then 2 else if a = 43 then 0 else if a = 45 then 1 else if a = 47 then 3 else if a = 60 then 5 else if a = 62 then 9 else if a = 300 then 6 else if a = 301 then 10 else if a = 302 then 7 else if a = 303 then 8 else -1
theorem signOf_r {a : Int} {M : pm_M} {K : Int → pm_M → Prop} (hK : K (so a) M) : k12_signOf a M K := by
  apply k12_signOf_r
  unfold so at hK
  by_cases h1 : a = 37
  · rw [if_pos h1] at hK ⊢; exact hK
  rw [if_neg h1] at hK ⊢
  by_cases h2 : a = 42
  · rw [if_pos h2] at hK ⊢; exact hK
  rw [if_neg h2] at hK ⊢
  by_cases h3 : a = 43
  · rw [if_pos h3] at hK ⊢; exact hK
  rw [if_neg h3] at hK ⊢
  by_cases h4 : a = 45
  · rw [if_pos h4] at hK ⊢; exact hK
  rw [if_neg h4] at hK ⊢
  by_cases h5 : a = 47
  · rw [if_pos h5] at hK ⊢; exact hK
  rw [if_neg h5] at hK ⊢
  by_cases h6 : a = 60
  · rw [if_pos h6] at hK ⊢; exact hK
  rw [if_neg h6] at hK ⊢
  by_cases h7 : a = 62
  · rw [if_pos h7] at hK ⊢; exact hK
  rw [if_neg h7] at hK ⊢
  by_cases h8 : a = 300
  · rw [if_pos h8] at hK ⊢; exact hK
  rw [if_neg h8] at hK ⊢
  by_cases h9 : a = 301
  · rw [if_pos h9] at hK ⊢; exact hK
  rw [if_neg h9] at hK ⊢
  by_cases h10 : a = 302
  · rw [if_pos h10] at hK ⊢; exact hK
  rw [if_neg h10] at hK ⊢
  by_cases h11 : a = 303
  · rw [if_pos h11] at hK ⊢; exact hK
  rw [if_neg h11] at hK ⊢; exact hK
theorem so_vcd {c : Int} (h : 0 ≤ c ∧ c ≤ 10) : so (vcd c) = c := by
  obtain ⟨k, rfl⟩ : ∃ k : Nat, c = (k : Int) := ⟨c.toNat, by omega⟩
  have key : ∀ k : Nat, k ≤ 10 → so (vcd (k : Int)) = (k : Int) := by decide
  exact key k (by omega)
theorem so_mark {c : Int} (h : isM c) : so c = -1 := by
  rcases h with rfl | rfl | rfl | rfl | rfl | rfl <;> decide
/-- the token is a sign between two -/
theorem isOf_r {N lo hi : Int} {s : Sc} {M : pm_M} {K : Int → pm_M → Prop} (hs : Hr s M) (h0 : SK N s) (hlo : 0 ≤ lo) (h1 : s.2.2.1 = 4 → lo ≤ s.2.2.2.1 → s.2.2.2.1 ≤ hi → K 1 M) (h2 : ¬ (s.2.2.1 = 4 ∧ lo ≤ s.2.2.2.1 ∧ s.2.2.2.1 ≤ hi) → K 0 M) : k12_isOf lo hi M K := by
  obtain ⟨-, -, -, -, v4, v5, v5'⟩ := h0
  apply k12_isOf_r
  rw [hs.2.2.1]
  by_cases a : s.2.2.1 = 4
  · rw [if_pos (by rw [a]; decide), hs.2.2.2.2.1 a]
    refine signOf_r ?_
    rw [so_vcd (v4 a)]
    by_cases b : s.2.2.2.1 < lo
    · rw [if_pos b]; exact h2 (fun z => by omega)
    rw [if_neg b]
    by_cases c : s.2.2.2.1 ≤ hi
    · rw [if_pos c]; exact h1 a (by omega) c
    · rw [if_neg c]; exact h2 (fun z => c z.2.2)
  · by_cases b : s.2.2.1 = 5
    · rw [if_pos (by rw [b]; decide), hs.2.2.2.2.2 b]
      refine signOf_r ?_
      rw [so_mark (v5' b), if_pos (by omega)]
      exact h2 (fun z => a z.1)
    · rw [if_neg ?_]
      · exact h2 (fun z => a z.1)
      · unfold tkR
        split
        · decide
        split
        · decide
        split
        · decide
        split
        · decide
        omega
theorem rvar_r {L : Int → Int} {N : Int} {s : Sc} {M : pm_M} {K : Int → pm_M → Prop} (hT : TpR L N M) (hs : Hr s M) (h0 : SK N s) (hK : K (vr (ub L) s) M) : k12_variable M K := by
  obtain ⟨t1, ⟨n0, n6⟩, t3⟩ := hT
  obtain ⟨⟨p0, p1, p2⟩, -, -, -, -, ⟨ty0, ty5⟩, -⟩ := h0
  have htk : tkR s.2.2.1 = 1 ↔ s.2.2.1 = 2 := by
    unfold tkR
    constructor
    · intro h
      split at h
      · omega
      split at h
      · omega
      split at h
      · assumption
      split at h <;> omega
    · intro h; rw [h]; decide
  apply k12_variable_r
  rw [hs.1, hs.2.1, hs.2.2.1, t1, w32_id (show -2147483648 ≤ s.1 - s.2.1 ∧ s.1 - s.2.1 < 2147483648 by omega)]
  unfold vr at hK
  have no : ¬ (s.2.2.1 = 2 ∧ s.1 - s.2.1 = 1) → K (-1) M := fun h => by rw [if_neg h] at hK; exact hK
  by_cases hN : s.2.1 < N
  · rw [if_pos hN, (t3 s.2.1 p0 (by omega)).1]
    refine ⟨⟨p0, by omega⟩, ?_⟩
    by_cases a : s.2.2.1 = 2
    case neg => rw [if_neg (fun z => a (htk.mp z))]; exact no (fun z => a z.1)
    rw [if_pos (htk.mpr a)]
    by_cases b : s.1 - s.2.1 = 1
    case neg => rw [if_neg b]; exact no (fun z => b z.2)
    rw [if_pos b]
    rw [if_pos ⟨a, b⟩] at hK
    have hs' := ub_s (t3 s.2.1 p0 (by omega)).2
    have tb := (t3 s.2.1 p0 (by omega)).2
    have hu : pm_iand (L s.2.1) 255 = ub L s.2.1 := rfl
    rw [hu] at hs' ⊢
    have w1 : w32 (3 + ub L s.2.1) = 3 + ub L s.2.1 := w32_id (by omega)
    have w2 : w32 (3 + ub L s.2.1 - 97) = 3 + ub L s.2.1 - 97 := w32_id (by omega)
    have w3 : w32 (ub L s.2.1 - 120) = ub L s.2.1 - 120 := w32_id (by omega)
    rw [w1, w2, w3]
    unfold vch at hK
    by_cases c1 : ub L s.2.1 < 120
    · rw [if_pos c1]
      rw [if_neg (by omega)] at hK
      by_cases c2 : ub L s.2.1 < 97
      · rw [if_pos c2]; rw [if_neg (by omega)] at hK; exact hK
      rw [if_neg c2]
      by_cases c3 : ub L s.2.1 ≤ 102
      · rw [if_pos c3]; rw [if_pos (by omega)] at hK; exact hK
      · rw [if_neg c3]; rw [if_neg (by omega)] at hK; exact hK
    · rw [if_neg c1]
      by_cases c2 : ub L s.2.1 ≤ 122
      · rw [if_pos c2]; rw [if_pos (by omega)] at hK; exact hK
      · rw [if_neg c2, if_neg (by omega), if_neg (by omega)]
        rw [if_neg (by omega), if_neg (by omega)] at hK; exact hK
  · rw [if_neg hN]
    by_cases a : s.2.2.1 = 2
    case neg => rw [if_neg (fun z => a (htk.mp z))]; exact no (fun z => a z.1)
    rw [if_pos (htk.mpr a)]
    have hno : ¬ s.1 - s.2.1 = 1 := by omega
    rw [if_neg hno]; exact no (fun z => hno z.2)
/-- a wrong token waits -/
def Pnd (M : pm_M) (pl : Int) : Prop := gI M 142 6 = 4 ∧ gI M 142 8 = 0 ∧ gI M 142 4 = pl ∧ 0 ≤ pl ∧ pl ≤ 600
theorem pnd_var {L : Int → Int} {N pl : Int} {M : pm_M} {K : Int → pm_M → Prop} (hT : TpR L N M) (h : Pnd M pl) (hK : K (-1) M) : k12_variable M K := by
  obtain ⟨t1, ⟨n0, n6⟩, t3⟩ := hT
  apply k12_variable_r
  rw [h.1, h.2.2.1, t1]
  by_cases hN : pl < N
  · rw [if_pos hN, if_neg (by decide)]; exact ⟨⟨h.2.2.2.1, by omega⟩, hK⟩
  · rw [if_neg hN, if_neg (by decide)]; exact hK
theorem bad_w {pl : Int} (h : 0 ≤ pl ∧ pl ≤ 600) (k : Int) (hk : 0 < k ∧ k < 8) : w32 (w32 (8 * pl) + k) = 8 * pl + k := by
  rw [w32_id (show -2147483648 ≤ 8 * pl ∧ 8 * pl < 2147483648 by omega), w32_id (by omega)]
theorem pnd_part {L : Int → Int} {N pl p : Int} {M : pm_M} {K : Int → pm_M → Prop} {h : Nat} (hh : 22 ≤ h) (hT : TpR L N M) (hP : Pnd M pl) (hK : K 0 (upI M 142 8 (8 * pl + 1))) : k12_part h p M K := by
  apply k12_part_r hh
  rw [hP.1, if_neg (by decide)]
  refine pnd_var hT hP ?_
  rw [if_pos rfl, hP.1, if_neg (by decide), hP.2.1, if_pos rfl, hP.2.2.1, bad_w hP.2.2.2 1 (by decide)]
  exact hK
theorem pnd_term {L : Int → Int} {N pl p : Int} {M : pm_M} {K : Int → pm_M → Prop} {h : Nat} (hh : 23 ≤ h) (hT : TpR L N M) (hP : Pnd M pl) (hK : K 0 (upI M 142 8 (8 * pl + 1))) : k12_term h p M K := by
  apply k12_term_r (by omega)
  refine pnd_part (by omega) hT hP ?_
  apply k12_term_11_r (by omega)
  rw [if_pos rfl]; exact ⟨Or.inl rfl, hK⟩
theorem pnd_sum {L : Int → Int} {N pl p : Int} {M : pm_M} {K : Int → pm_M → Prop} {h : Nat} (hh : 24 ≤ h) (hT : TpR L N M) (hP : Pnd M pl) (hK : K 0 (upI M 142 8 (8 * pl + 1))) : k12_sum h p M K := by
  apply k12_sum_r (by omega)
  refine pnd_term (by omega) hT hP ?_
  apply k12_sum_11_r (by omega)
  rw [if_pos rfl]; exact ⟨Or.inl rfl, hK⟩
theorem pnd_e {L : Int → Int} {N pl p : Int} {M : pm_M} {K : Int → pm_M → Prop} {h : Nat} (hh : 25 ≤ h) (hT : TpR L N M) (hP : Pnd M pl) (hK : K 0 (upI M 142 8 (8 * pl + 1))) : k12_e h p M K := by
  apply k12_e_r (by omega)
  refine pnd_sum (by omega) hT hP ?_
  rw [if_pos rfl]; exact ⟨Or.inl rfl, hK⟩
theorem pnd_sign {pl c : Int} {M : pm_M} {K : Int → pm_M → Prop} (hP : Pnd M pl) (hK : K 0 (upI M 142 8 (8 * pl + 1))) : k12_sign c M K := by
  apply k12_sign_r
  rw [hP.1, if_neg (by decide), hP.2.1, if_pos rfl, hP.2.2.1, bad_w hP.2.2.2 1 (by decide)]
  exact hK

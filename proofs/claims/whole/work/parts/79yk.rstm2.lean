/-! the other reader: statements -/
theorem rwords {L : Int → Int} {N par dep : Int} {Q : Qs} {M : pm_M} {K : Int → pm_M → Prop} {c h : Nat} (hh : 151 ≤ h) (hc : 3 ≤ c) (hv : LQ L N dep Q M) (h1 : knd (ub L) Q.1.1 = -1 → K 0 (upI M 142 8 (8 * Q.1.1.2.1 + 1)))
    (h2 : ¬ knd (ub L) Q.1.1 = -1 → k12_statement_78 (c - 3) h par (if wdb (ub L) Q.1.1 (pm_txt 3) = true then 1 else 0) (if wdb (ub L) Q.1.1 (pm_txt 4) = true then 1 else 0) (if wdb (ub L) Q.1.1 (pm_txt 5) = true then 1 else 0) (vr (ub L) Q.1.1) M K) : k12_statement c h par M K := by
  obtain ⟨⟨⟨hT, hr, hR⟩, hw, e8, e20⟩, ⟨h0, hS, hl, hWD⟩, e19, e21⟩ := hv
  have n6 := hT.2.1.2
  have hp := hS.1
  apply k12_statement_r hh
  refine ⟨1, c - 1, by omega, rw3 (Nat.le_refl _) hT hr hS hWD ?_⟩
  refine ⟨1, c - 2, by omega, rw4 (Nat.le_refl _) hT hr hS hWD ?_⟩
  refine ⟨1, c - 3, by omega, rw5 (Nat.le_refl _) hT hr hS hWD ?_⟩
  refine rvar_r hT hr hS ?_
  by_cases a : knd (ub L) Q.1.1 = -1
  · obtain ⟨q3, q4, q5, qv⟩ := knd_w.2.2.2.2 a
    rw [if_neg q3, if_neg q4, if_neg q5, if_pos rfl, if_pos rfl, if_pos rfl, if_pos qv, e8, if_pos rfl, hr.2.1, bad_w ⟨by omega, by omega⟩ 1 (by decide)]
    exact h1 a
  have k78 := h2 a
  by_cases q3 : wdb (ub L) Q.1.1 (pm_txt 3) = true
  · rw [if_pos q3, if_neg (by decide)]; rw [if_pos q3] at k78; exact k78
  rw [if_neg q3, if_pos rfl]; rw [if_neg q3] at k78
  by_cases q4 : wdb (ub L) Q.1.1 (pm_txt 4) = true
  · rw [if_pos q4, if_neg (by decide)]; rw [if_pos q4] at k78; exact k78
  rw [if_neg q4, if_pos rfl]; rw [if_neg q4] at k78
  by_cases q5 : wdb (ub L) Q.1.1 (pm_txt 5) = true
  · rw [if_pos q5, if_neg (by decide)]; rw [if_pos q5] at k78; exact k78
  rw [if_neg q5, if_pos rfl]; rw [if_neg q5] at k78
  have nv : ¬ vr (ub L) Q.1.1 = -1 := fun z => a (by unfold knd; rw [if_neg (fun y => y z), if_neg q3, if_neg q4, if_neg q5])
  rw [if_neg nv]; exact k78
/-- a statement's head in the list that holds it -/
theorem head_rd {M M' : pm_M} {l : List Stm} {k p b e : Int} {n1 : Nat} (hF : HF M k p) (hX : XBh M k e) (hk : 0 ≤ k ∧ k < e ∧ e < (n1 : Int)) (h1 : ∀ a, 145 ≤ a → a ≤ 149 → ∀ j, 0 ≤ j → j < (n1 : Int) → gI M' a (100 + j) = gI M a (100 + j)) (f0 : FiS l k 0 (k + 1) (gI M' 150 (100 + k))) (f1 : FiS l k 1 (k + 1) (gI M' 151 (100 + k))) : RDt M' l (k, p, b, e) := by
  obtain ⟨x7, g, x⟩ := hX
  have xle := x.le
  refine ⟨?_, ?_, f0, f1, by show gI M' 147 (100 + (k + 1)) = k; rw [h1 147 (by decide) (by decide) (k + 1) (by omega) (by omega)]; exact x7, g, x.same (fun j j0 j1 => ⟨h1 _ (by decide) (by decide) j (by omega) (by omega), h1 _ (by decide) (by decide) j (by omega) (by omega), h1 _ (by decide) (by decide) j (by omega) (by omega)⟩) (fun j j0 j1 => h1 _ (by decide) (by decide) j (by omega) (by omega))⟩
  · show gI M' 147 (100 + k) = p
    rw [h1 147 (by decide) (by decide) k (by omega) (by omega)]; exact hF.1
  · show gI M' 148 (100 + k) = k + 1
    rw [h1 148 (by decide) (by decide) k (by omega) (by omega)]; exact hF.2.1
/-- a statement with its first block alone -/
theorem asmA {M2 M3 : pm_M} {Q : Qs} {l1 : List Stm} {k p b e : Int} {n1 : Nat} (hk : 0 ≤ k ∧ k < e ∧ e < (n1 : Int)) (hl1 : ∀ t ∈ l1, t.1 < k ∨ t = (k, p, b, e)) (hF : HF M2 k p) (hX : XBh M2 k e) (f3 : Fr (qW 150 k n1) M2 M3) (rp : RP2 k 0 n1 150 l1 Q M3) : (∀ t ∈ Q.2, k ≤ t.1 → RDt M3 Q.2 t) ∧ (∀ t ∈ Q.2, k < t.1 → RNt M3 Q.2 t) ∧ gI M3 152 (100 + k) = -1 ∧ gI M3 151 (100 + k) = -1 := by
  obtain ⟨⟨w, -⟩, rd, fs, s1, s2⟩ := rp
  have kp : ∀ a j, 145 ≤ a → a ≤ 152 → 0 ≤ j → j < (n1 : Int) → ¬ (a = 150 ∧ j = k) → gI M3 a (100 + j) = gI M2 a (100 + j) := fun a j a1 a2 j0 j1 q => f3.g (by
    simp [qW, qS, qE]; omega)
  have e151 : gI M3 151 (100 + k) = -1 := by rw [kp 151 k (by decide) (by decide) (by omega) (by omega) (by omega)]; exact hF.2.2.2.1
  refine ⟨fun t ht hn => ?_, fun t ht hn => ?_, ?_, e151⟩
  · rcases s2 t ht with q | ⟨q, -⟩
    · rcases hl1 t q with y | y
      · omega
      · subst y
        refine head_rd hF hX hk (fun a a1 a2 j j0 j1 => kp a j a1 (by omega) j0 j1 (by omega)) (fs hk.1) ?_
        rw [e151]
        refine Or.inl ⟨rfl, fun s hs z => ?_⟩
        rcases s2 s hs with q' | ⟨q1, q2⟩
        · rcases hl1 s q' with y | y
          · omega
          · rw [y] at z; simp only [] at z; omega
        · omega
    · exact (rd t ht q).1
  · rcases s2 t ht with q | ⟨q, -⟩
    · rcases hl1 t q with y | y
      · omega
      · rw [y] at hn; simp only [] at hn; omega
    · exact (rd t ht q).2
  · rw [kp 152 k (by decide) (by decide) (by omega) (by omega) (by omega)]; exact hF.2.2.2.2
/-- a statement with both its blocks -/
theorem asmB {M2 M3 M4 M5 : pm_M} {Q Q5 : Qs} {l1 : List Stm} {k p b e : Int} {n1 : Nat} (hk : 0 ≤ k ∧ k < e ∧ e < (n1 : Int)) (hl1 : ∀ t ∈ l1, t.1 < k ∨ t = (k, p, b, e)) (hF : HF M2 k p) (hX : XBh M2 k e) (f3 : Fr (qW 150 k n1) M2 M3) (rp : RP2 k 0 n1 150 l1 Q M3) (k4 : ∀ a i, a ≠ 142 → gI M4 a i = gI M3 a i) (f5 : Fr (qW 151 k Q.1.2.length) M4 M5) (rp5 : RP2 k 1 Q.1.2.length 151 Q.2 Q5 M5) : (∀ t ∈ Q5.2, k ≤ t.1 → RDt M5 Q5.2 t) ∧ (∀ t ∈ Q5.2, k < t.1 → RNt M5 Q5.2 t) ∧ gI M5 152 (100 + k) = -1 := by
  obtain ⟨a1, a2, a3, a4⟩ := asmA hk hl1 hF hX f3 rp
  obtain ⟨⟨w, -, -, hn1⟩, rd, fs, s1, s2⟩ := rp
  obtain ⟨⟨w5, -⟩, rd5, fs5, s15, s25⟩ := rp5
  have kp : ∀ a j, 145 ≤ a → a ≤ 152 → 0 ≤ j → j < (Q.1.2.length : Int) → ¬ (a = 151 ∧ j = k) → gI M5 a (100 + j) = gI M3 a (100 + j) := fun a j b1 b2 j0 j1 q => by
    rw [f5.g (by simp [qW, qS, qE]; omega), k4 _ _ (by omega)]
  have kp2 : ∀ a j, 145 ≤ a → a ≤ 149 → 0 ≤ j → j < (n1 : Int) → gI M5 a (100 + j) = gI M2 a (100 + j) := fun a j b1 b2 j0 j1 => by
    rw [kp a j b1 (by omega) j0 (by omega) (by omega), f3.g (by simp [qW, qS, qE]; omega)]
  have old : ∀ t ∈ Q.2, 0 ≤ t.1 ∧ t.1 < t.2.2.2 ∧ t.2.2.2 < (Q.1.2.length : Int) := fun t ht => (w.2.2.2.1 t ht).1
  refine ⟨fun t ht hn => ?_, fun t ht hn => ?_, ?_⟩
  · rcases s25 t ht with q | ⟨q, -⟩
    · have ho := old t q
      by_cases z : t.1 = k
      · have hto : t ∈ l1 := by
          rcases s2 t q with y | ⟨y, -⟩
          · exact y
          · omega
        have et : t = (k, p, b, e) := (hl1 t hto).resolve_left (by omega)
        subst et
        refine head_rd hF hX hk (fun a b1 b2 j j0 j1 => kp2 a j b1 b2 j0 j1) ?_ (fs5 hk.1)
        rw [kp 150 k (by decide) (by decide) (by omega) (by simp only [] at ho; omega) (by omega)]
        refine (fs hk.1).ext s15 (fun s hs => ?_)
        rcases s25 s hs with y | ⟨y, y2 | y2⟩
        · exact Or.inl y
        · exact Or.inr (fun _ _ z3 => by omega)
        · exact Or.inr (fun _ z2 _ => by simp only [] at ho; omega)
      · refine (a1 t q hn).ext s15 (fun s hs => ?_) (fun a b1 b2 j j1 j2 => kp a j b1 (by omega) (by omega) (by omega) (by omega)) (kp 150 t.1 (by decide) (by decide) (by omega) (by omega) (by omega)) (kp 151 t.1 (by decide) (by decide) (by omega) (by omega) (by omega)) (by omega)
        rcases s25 s hs with y | ⟨y, y2 | y2⟩
        · exact Or.inl y
        · exact Or.inr (by omega)
        · exact Or.inr (by omega)
    · exact (rd5 t ht q).1
  · rcases s25 t ht with q | ⟨q, -⟩
    · have ho := old t q
      have hpt := w.par q
      have hbr : t.2.1 = k → t.2.2.1 = 0 := by
        intro z
        rcases s2 t q with y | ⟨y, y2 | y2⟩
        · rcases hl1 t y with y' | y'
          · omega
          · rw [y'] at hn; simp only [] at hn; omega
        · exact y2.2
        · omega
      have h5 := a2 t q hn
      unfold RNt at h5 ⊢
      rw [kp 152 t.1 (by decide) (by decide) (by omega) (by omega) (by omega)]
      refine h5.ext s15 (fun s hs => ?_)
      rcases s25 s hs with y | ⟨y, y2 | y2⟩
      · exact Or.inl y
      · exact Or.inr (fun _ z2 z3 => by have := hbr (by omega); omega)
      · exact Or.inr (fun _ z2 _ => by omega)
    · exact (rd5 t ht q).2
  · rw [kp 152 k (by decide) (by decide) (by omega) (by omega) (by omega)]; exact a3

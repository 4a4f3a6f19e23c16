/-! what the constructors leave: nothing read, nothing told -/
theorem zl_ly : pm_Ly zM := by
  have h : (pm_refs.all (fun q => decide (zM q.1 q.2.1 = q.2.2))) = true := by decide +kernel
  intro q hq
  have := List.all_eq_true.mp h q hq
  simpa using this
theorem zl_1 : ∀ i : Nat, i < 600 → zM 1 i = 0 ∧ zM 143 i = 0 := by decide +kernel
theorem zl_5 : ∀ i : Nat, i < 60 → zM 5 i = 0 := by decide +kernel
theorem zl_c : zM 18 1 = 0 ∧ zM 18 2 = 0 ∧ zM 73 10 = -1 ∧ zM 73 12 = -1 ∧ zM 0 14 = 0 ∧ zM 132 11 = 0 ∧ zM 138 14 = 0 ∧ zM 0 1 = 0 := by decide +kernel
theorem zl_p : zM 2 15 = 0 ∧ zM 2 16 = 0 ∧ zM 2 17 = 0 ∧ zM 2 18 = 0 := by decide +kernel
theorem zl_r : zM 142 2 = 0 ∧ zM 144 0 = 0 ∧ zM 144 1 = 0 ∧ zM 142 24 = 0 ∧ zM 142 22 = 0 ∧ zM 142 35 = -1 ∧ zM 142 36 = -1 ∧ zM 142 60 = 0 := by decide +kernel
theorem zl_inv : INV zM := by
  obtain ⟨c1, c2, c3, c4, c5, c6, c7, c8⟩ := zl_c
  obtain ⟨p1, p2, p3, p4⟩ := zl_p
  obtain ⟨r1, r2, r3, r4, r5, r6, r7, r8⟩ := zl_r
  have hC : PrC 2 (((0, 0, 0, 0, 0), []), []) zM := by
    refine ⟨p1, p3, ⟨?_, fun v v0 v1 => ?_⟩, fun i hi => absurd hi (Nat.not_lt_zero _), ⟨p2, fun i hi => absurd hi (Nat.not_lt_zero _), fun _ t ht => by simp at ht⟩, fun t ht => by simp at ht, fun i hi => zl_5 i hi⟩
    · have : gI zM 2 18 = 0 := p4
      omega
    · rw [show gI zM 2 18 = 0 from p4]
      exact ⟨fun z => absurd z (bi0 ⟨v0, v1⟩), fun ⟨y, hy, _⟩ => by simp at hy⟩
  have hW := (wf_of (M := zM) (Q := (((0, 0, 0, 0, 0), []), [])) WLs.nil (by decide) hC).1
  have e : ∀ a i, a < 18 → mkP zM [] a i = gI zM a i := fun a i h => by rw [mkP_lt h]
  have e15 : mkP zM [] 2 15 = 0 := by rw [e _ _ (by decide)]; exact p1
  have e16 : mkP zM [] 2 16 = 0 := by rw [e _ _ (by decide)]; exact p2
  have e17 : mkP zM [] 2 17 = 0 := by rw [e _ _ (by decide)]; exact p3
  have e18 : mkP zM [] 2 18 = 0 := by rw [e _ _ (by decide)]; exact p4
  refine ⟨mkP zM [], fun _ _ => 0, 0, ⟨hW, ⟨⟨by omega, by omega⟩, fun i i0 i1 => by omega⟩, fun t j t0 t1 => by omega⟩, ⟨⟨fun a a0 a1 => (mkP_lt a1).symm, ⟨c1, ⟨by decide, by decide⟩, fun t j t0 t1 => by omega⟩, c2, ⟨c3, fun z => absurd z (by decide), c4, Or.inl rfl⟩⟩, ⟨Or.inl c5, fun z => ?_⟩, ⟨Or.inl c6, fun z => ?_⟩, ⟨Or.inl c7, fun z => ?_⟩, fun n n0 n1 => by omega⟩, ⟨⟨⟨by rw [e15]; exact r2, by rw [e16]; exact r3, fun n n0 n1 => by omega⟩, ⟨r7, fun z => absurd z (by decide), r6, Or.inl rfl⟩, ⟨r4, ⟨by decide, by decide⟩, fun t j t0 t1 => by omega⟩, by rw [e18]; exact r5⟩, ⟨by rw [e17]; exact r8, fun i i0 i1 => by omega⟩⟩, ⟨?_, ?_, ?_⟩, fun i i0 i1 => ?_⟩
  · have : gI zM 0 14 = 0 := c5
    omega
  · have : gI zM 132 11 = 0 := c6
    omega
  · have : gI zM 138 14 = 0 := c7
    omega
  · have h1 : gI zM 0 1 = 0 := c8
    have h2 : gI zM 142 2 = 0 := r1
    omega
  · have h1 : gI zM 0 1 = 0 := c8
    omega
  · have h1 : gI zM 0 1 = 0 := c8
    omega
  · obtain ⟨a, b⟩ := zl_1 i.toNat (by omega)
    have a' : gI zM 1 i = 0 := a
    have b' : gI zM 143 i = 0 := b
    omega

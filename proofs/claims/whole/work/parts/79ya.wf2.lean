/-! the rows that were read and linked are a program: all its properties -/
/-- the program of what was read -/
theorem wf_of {M : pm_M} {Q : Qs} (hW : WLs Q.1.2 Q.2) (h60 : Q.1.2.length ≤ 60) (hC : PrC 2 Q M) : WF (mkP M Q.2) ∧ (∀ s, isSt (mkP M Q.2) s ↔ ∃ t ∈ Q.2, t.1 = s) := by
  obtain ⟨c15, c17, cV, cN, cR, cL, cM⟩ := hC
  have hS : SrL Q.2 := SrL.of hW.srt
  have wt := hW.2.2.2.1
  have p3 : ∀ k, mkP M Q.2 3 k = gI M 3 k := fun k => by rw [mkP_lt (by decide)]
  have kd : ∀ k, 0 ≤ k → k < (Q.1.2.length : Int) → gI M 3 k = kdl Q.1.2 k ∧ gI M 4 k = (Q.1.2.getD k.toNat (0, 0)).2 := fun k k0 k1 => by
    have := cN k.toNat (by omega)
    rw [Int.toNat_of_nonneg k0] at this; exact this
  have vl : ∀ k, 0 ≤ k → k < (Q.1.2.length : Int) → vld (gI M 3 k, gI M 4 k) ∧ (Q.1.2.getD k.toNat (0, 0)) = (gI M 3 k, gI M 4 k) ∧ (Q.1.2.getD k.toNat (0, 0)) ∈ Q.1.2 := fun k k0 k1 => by
    obtain ⟨a, b⟩ := kd k k0 k1
    have e : (Q.1.2.getD k.toNat (0, 0)) = (gI M 3 k, gI M 4 k) := by rw [a, b]; rfl
    have hm := gdM (z := ((0, 0) : Int × Int)) (show k.toNat < Q.1.2.length by omega)
    exact ⟨by rw [← e]; exact hW.2.1 _ hm, e, hm⟩
  have st : ∀ s, isSt (mkP M Q.2) s ↔ ∃ t ∈ Q.2, t.1 = s := by
    intro s
    unfold isSt
    rw [mkP_lt (show 2 < 18 by decide), mkP_lt (show 3 < 18 by decide), c15]
    constructor
    · intro ⟨s0, s1, s2⟩
      obtain ⟨t, ht, q1, q2⟩ := hW.cover s0 s1
      refine ⟨t, ht, Decidable.byContradiction (fun z => ?_)⟩
      obtain ⟨-, -, ⟨g, hx⟩, -⟩ := wt t ht
      have := hx.kd s (by omega) q2
      rw [(kd s s0 s1).1] at s2
      omega
    · intro ⟨t, ht, e⟩
      obtain ⟨hb, hk, -, -⟩ := wt t ht
      subst e
      refine ⟨hb.1, by omega, ?_⟩
      rw [(kd t.1 hb.1 (by omega)).1]; exact hk.2
  have par : ∀ t ∈ Q.2, gI M 6 t.1 = t.2.1 ∧ gI M 13 t.1 = t.2.2.1 := fun t ht => cR.2.2 h60 t ht
  refine ⟨⟨?_, ?_, ?_, ?_, ?_⟩, st⟩
  · -- PWr
    unfold PWr
    rw [mkP_lt (show 2 < 18 by decide), mkP_lt (show 3 < 18 by decide), mkP_lt (show 4 < 18 by decide), mkP_lt (show 9 < 18 by decide), c15]
    refine ⟨by omega, fun s s0 s1 s2 => ?_, fun k k0 k1 k2 => ?_⟩
    · have hi : isSt (mkP M Q.2) s := by unfold isSt; rw [mkP_lt (show 2 < 18 by decide), mkP_lt (show 3 < 18 by decide), c15]; exact ⟨s0, s1, s2⟩
      obtain ⟨t, ht, e⟩ := (st s).mp hi
      subst e
      obtain ⟨a1, -, -, ⟨g, a4⟩, -⟩ := cL t ht
      have hb := (wt t ht).1
      rw [show gI M 9 t.1 = t.2.2.2 from a1]
      exact ⟨g, a4.ex, hb.2.2⟩
    · exact (vl k k0 k1).1.2.1 (by simp only []; omega)
  · -- PWs
    intro s hs
    obtain ⟨t, ht, e⟩ := (st s).mp hs
    subst e
    obtain ⟨a1, a2, a3, a4, a5, a6, a7, a8⟩ := cL t ht
    obtain ⟨hb, hk, -, hp⟩ := wt t ht
    obtain ⟨pa, pb⟩ := par t ht
    have e20 : mkP M Q.2 20 t.1 = fif Q.2 t.2.1 t.2.2.1 (t.1 + 1) := by
      show fif Q.2 (gI M 6 t.1) (gI M 13 t.1) (t.1 + 1) = _
      rw [pa, pb]
    have e21 : mkP M Q.2 21 t.1 = fif Q.2 t.1 0 (t.1 + 1) := rfl
    have e22 : mkP M Q.2 22 t.1 = fif Q.2 t.1 1 (t.1 + 1) := rfl
    have k3 : gI M 3 t.1 = kdl Q.1.2 t.1 := (kd t.1 hb.1 (by omega)).1
    have way : ∀ p b, (fif Q.2 p b (t.1 + 1) = -1 ∨ (isSt (mkP M Q.2) (fif Q.2 p b (t.1 + 1)) ∧ t.1 < fif Q.2 p b (t.1 + 1) ∧ gI M 6 (fif Q.2 p b (t.1 + 1)) = p)) := by
      intro p b
      rcases fif_spec (p := p) (b := b) (fr := t.1 + 1) hS with ⟨h, -⟩ | ⟨q, q1, q2, q3, q4, q5, -⟩
      · exact Or.inl h
      · refine Or.inr ⟨(st _).mpr ⟨q, q1, q2⟩, by omega, ?_⟩
        rw [← q2, (par q q1).1]; exact q4
    rw [e20, e21, e22]
    rw [mkP_lt (show 3 < 18 by decide), mkP_lt (show 6 < 18 by decide), mkP_lt (show 10 < 18 by decide), mkP_lt (show 11 < 18 by decide), mkP_lt (show 12 < 18 by decide), pa]
    have ct : ∀ p, cont (mkP M Q.2) p = if p = -1 then -1 else if gI M 3 p = 2 then p else gI M 10 p := fun p => by
      unfold cont; rw [mkP_lt (show 3 < 18 by decide), mkP_lt (show 10 < 18 by decide)]
    refine ⟨by omega, way _ _, way _ _, way _ _, fun z => ?_, ?_, ?_, ?_⟩
    · rcases fif_spec (p := t.1) (b := 1) (fr := t.1 + 1) hS with ⟨h, -⟩ | ⟨q, q1, q2, q3, q4, q5, -⟩
      · exact h
      · exfalso
        rcases (wt q q1).2.2.2 with y | ⟨s, s1, s2, s3, s4⟩
        · omega
        · rw [s2, q4] at s4; omega
    · rw [ct]; exact a6
    · have hne : ¬ t.1 = -1 := by omega
      rw [ct, if_neg hne]; exact a7
    · exact a8
  · -- PWt
    have e24 : ∀ s, mkP M Q.2 24 s = enf Q.2 (Q.1.2.length : Int) s := fun s => by
      show enf Q.2 (gI M 2 15) s = _
      rw [c15]
    refine ⟨fun s hs => ?_, fun h => ?_⟩
    · obtain ⟨t, ht, e⟩ := (st s).mp hs
      subst e
      obtain ⟨hb, hk, -, hp⟩ := wt t ht
      obtain ⟨pa, pb⟩ := par t ht
      have e20 : mkP M Q.2 20 t.1 = fif Q.2 t.2.1 t.2.2.1 (t.1 + 1) := by
        show fif Q.2 (gI M 6 t.1) (gI M 13 t.1) (t.1 + 1) = _
        rw [pa, pb]
      have hpl : t.2.1 < t.1 := by
        rcases hp with ⟨y, -⟩ | ⟨s, s1, s2, s3, -⟩ <;> omega
      obtain ⟨j, hj, ej⟩ := gdI zS ht
      have rj := rnk_at hS j hj
      rw [ej] at rj
      have h20 := hW.1.1
      rw [e20, e24, mkP_lt (show 6 < 18 by decide), pa]
      refine ⟨?_, ?_, ?_, ?_, ?_, fun s' hs' hlt => ?_⟩
      · rcases hp with ⟨y, -⟩ | ⟨s, s1, s2, s3, -⟩
        · exact Or.inl y
        · refine Or.inr ⟨(st _).mpr ⟨s, s1, s2⟩, by omega, ?_⟩
          rw [e24]
          rcases enf_spec (n := (Q.1.2.length : Int)) (s := t.2.1) hS with ⟨h1, -⟩ | ⟨q, q1, q2, q3, q4, -⟩
          · rw [h1]
            rcases enf_spec (n := (Q.1.2.length : Int)) (s := t.1) hS with ⟨h1', -⟩ | ⟨q', q1', q2', -⟩
            · omega
            · rw [q2']; have := (wt q' q1').1; omega
          · rw [q2]
            have hlt : t.1 < q.1 := by
              by_cases z : q.1 < t.1
              · have := hW.2.2.2.2 t ht q q1 q3 z; omega
              · by_cases z' : q.1 = t.1
                · have := hW.inj q1 ht z'; rw [this] at q4; omega
                · omega
            rcases enf_spec (n := (Q.1.2.length : Int)) (s := t.1) hS with ⟨-, h2'⟩ | ⟨q', q1', q2', -, -, q5'⟩
            · exact absurd ⟨hlt, by omega⟩ (h2' q q1)
            · rw [q2']; exact q5' q q1 hlt (by omega)
      · rcases enf_spec (n := (Q.1.2.length : Int)) (s := t.1) hS with ⟨h1', -⟩ | ⟨q', q1', q2', q3', -⟩
        · omega
        · omega
      · rcases fif_spec (p := t.2.1) (b := t.2.2.1) (fr := t.1 + 1) hS with ⟨h, -⟩ | ⟨q, q1, q2, q3, q4, q5, -⟩
        · exact Or.inl h
        · refine Or.inr ?_
          rcases enf_spec (n := (Q.1.2.length : Int)) (s := t.1) hS with ⟨-, h2'⟩ | ⟨q', q1', q2', -, -, q5'⟩
          · exact absurd ⟨by omega, by omega⟩ (h2' q q1)
          · rw [q2', ← q2]; exact q5' q q1 (by omega) (by omega)
      · show 0 ≤ rnk Q.2 t.1; omega
      · show rnk Q.2 t.1 < 20; omega
      · obtain ⟨t', ht', e'⟩ := (st s').mp hs'
        obtain ⟨j', hj', ej'⟩ := gdI zS ht'
        have rj' := rnk_at hS j' hj'
        rw [ej', e'] at rj'
        show rnk Q.2 t.1 < rnk Q.2 s'
        rw [rj, rj']
        by_cases q : j < j'
        · omega
        · exfalso
          by_cases q' : j' = j
          · rw [q', ej] at ej'; rw [← ej'] at e'; omega
          · have := hW.srt j j' hj (by omega)
            rw [ej, ej'] at this; omega
    · rw [mkP_lt (show 2 < 18 by decide), c15] at h
      have hl : 0 < Q.2.length := by have := hW.1.2.1; omega
      have hm := gdM (z := zS) hl
      have z0 := hW.1.2.2 hl
      generalize Q.2.getD 0 zS = t at *
      refine ⟨(st 0).mpr ⟨t, hm, z0⟩, ?_⟩
      rw [mkP_lt (show 6 < 18 by decide), ← z0, (par t hm).1]
      rcases (wt t hm).2.2.2 with ⟨y, -⟩ | ⟨s, s1, s2, s3, -⟩
      · exact y
      · have := (wt s s1).1; omega
  · -- PWx
    have own : ∀ t ∈ Q.2, ∀ k, t.1 ≤ k → k ≤ t.2.2.2 → gI M 7 k = t.1 := fun t ht k k0 k1 => by
      obtain ⟨a1, a2, a3, -⟩ := cL t ht
      by_cases e : k = t.1
      · rw [e]; exact a2
      · exact a3 k (by omega) k1
    have h20 := hW.1.1
    unfold PWx
    rw [mkP_lt (show 2 < 18 by decide), mkP_lt (show 3 < 18 by decide), mkP_lt (show 6 < 18 by decide), mkP_lt (show 7 < 18 by decide), mkP_lt (show 9 < 18 by decide), mkP_lt (show 14 < 18 by decide), c15, show gI M 2 16 = (Q.2.length : Int) from cR.1]
    refine ⟨fun k k0 k1 => ?_, fun s k hs k0 k1 => ?_, ⟨by omega, by omega, fun s hs => ?_⟩, fun i i0 i1 => ?_, by omega⟩
    · obtain ⟨t, ht, q1, q2⟩ := hW.cover k0 k1
      obtain ⟨hb, hk, ⟨g, hx⟩, hp⟩ := wt t ht
      obtain ⟨a1, a2, a3, ⟨g', a4⟩, a5, -⟩ := cL t ht
      have o1 := own t ht k q1 q2
      have v := (vl k k0 k1).1.1
      simp only [] at v
      rw [o1]
      refine ⟨v, (st _).mpr ⟨t, ht, rfl⟩, q1, by rw [show gI M 9 t.1 = t.2.2.2 from a1]; exact q2, fun z => ?_, fun z => ?_⟩
      · refine Decidable.byContradiction (fun y => ?_)
        have := hx.kd k (by omega) q2
        rw [(kd k k0 k1).1] at z
        omega
      · have hne : k ≠ t.1 := fun y => by
          rw [(kd k k0 k1).1, y] at z; omega
        have hpr : t.1 ≤ gI M 6 k ∧ gI M 6 k < k := by
          by_cases y : k = t.1 + 1
          · rw [y, show gI M 6 (t.1 + 1) = t.1 from a5]; omega
          · have h2 : t.1 + 1 ≤ gI M 6 k ∧ gI M 6 k < k := a4.par k (by omega) q2
            omega
        exact ⟨by omega, hpr.2, own t ht _ hpr.1 (by omega)⟩
    · obtain ⟨t, ht, e⟩ := (st s).mp hs
      obtain ⟨a1, -⟩ := cL t ht
      rw [← e] at k0 k1 ⊢
      rw [show gI M 9 t.1 = t.2.2.2 from a1] at k1
      exact own t ht k k0 k1
    · obtain ⟨t, ht, e⟩ := (st s).mp hs
      obtain ⟨j, hj, ej⟩ := gdI zS ht
      have rj := rnk_at hS j hj
      rw [ej, e] at rj
      have e23 : mkP M Q.2 23 s = (j : Int) := rj
      rw [e23]
      refine ⟨by omega, ?_⟩
      rw [show gI M 14 (j : Int) = (Q.2.getD j zS).1 from cR.2.1 j hj, ej]; exact e
    · have r := cR.2.1 i.toNat (by omega)
      rw [Int.toNat_of_nonneg i0] at r
      have r' : gI M 14 i = (Q.2.getD i.toNat zS).1 := r
      have rj := rnk_at hS i.toNat (by omega)
      rw [r']
      refine ⟨(st _).mpr ⟨_, gdM (z := zS) (by omega), rfl⟩, ?_⟩
      show rnk Q.2 (Q.2.getD i.toNat zS).1 = i
      omega
  · -- PV
    unfold PV
    rw [mkP_lt (show 2 < 18 by decide), mkP_lt (show 3 < 18 by decide), mkP_lt (show 4 < 18 by decide), c15]
    refine ⟨cV.1, fun k k0 k1 => ?_⟩
    obtain ⟨v, e, hm⟩ := vl k k0 k1
    unfold vld at v
    simp only [] at v
    refine ⟨v.2.2.2, fun z => ?_, fun z => by have := v.2.2.1 z; omega⟩
    have hv := v.2.1 (Or.inr z)
    rw [cV.2 _ hv.1 hv.2]
    rw [e] at hm
    exact ⟨_, hm, Or.inr z, rfl⟩

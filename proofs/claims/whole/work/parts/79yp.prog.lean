/-! both readers have the same program -/
def bsum (x : Int) : Int := (if bi x 0 = true then 1 else 0) + (if bi x 1 = true then 2 else 0) + (if bi x 2 = true then 4 else 0) + (if bi x 3 = true then 8 else 0) + (if bi x 4 = true then 16 else 0) + (if bi x 5 = true then 32 else 0) + (if bi x 6 = true then 64 else 0) + (if bi x 7 = true then 128 else 0) + (if bi x 8 = true then 256 else 0)
theorem bsum_eq {x : Int} (h : 0 ≤ x ∧ x < 512) : bsum x = x := by
  have key : ∀ k : Nat, k < 512 → bsum (k : Int) = (k : Int) := by decide +kernel
  have := key x.toNat (by omega)
  rw [Int.toNat_of_nonneg h.1] at this; exact this
theorem MV.uniq {l : List (Int × Int)} {x y : Int} (h : MV l x) (h' : MV l y) : x = y := by
  have e : ∀ v, 0 ≤ v → v < 9 → bi x v = bi y v := fun v v0 v1 => by
    have a := h.2 v v0 v1
    have b := h'.2 v v0 v1
    cases hx : bi x v
    · cases hy : bi y v
      · rfl
      · have := a.mpr (b.mp hy); rw [hx] at this; exact absurd this (by decide)
    · have := b.mpr (a.mp hx); rw [this]
  rw [← bsum_eq h.1, ← bsum_eq h'.1]
  unfold bsum
  rw [e 0 (by decide) (by decide), e 1 (by decide) (by decide), e 2 (by decide) (by decide), e 3 (by decide) (by decide), e 4 (by decide) (by decide), e 5 (by decide) (by decide), e 6 (by decide) (by decide), e 7 (by decide) (by decide), e 8 (by decide) (by decide)]
theorem XB.kx {M : pm_M} {nd : List (Int × Int)} : ∀ {f : Nat} {n e : Int}, XB M f n e → (∀ k, n ≤ k → k ≤ e → gI M 145 (100 + k) = kdl nd k) → KXl nd f n e := by
  intro f
  induction f with
  | zero => intro n e h; exact h.elim
  | succ f ih =>
    intro n e h hk
    have hn := hk n (Int.le_refl _) h.le
    rcases h with ⟨a, h⟩ | ⟨a, -, -, h⟩ | ⟨a, -, -, -, h1, h2⟩
    · exact Or.inl ⟨by rw [← hn]; exact a, h⟩
    · exact Or.inr (Or.inl ⟨by rw [← hn]; exact a, ih h (fun k k0 k1 => hk k (by omega) k1)⟩)
    · have := h1.le
      have := h2.le
      exact Or.inr (Or.inr ⟨by rw [← hn]; exact a, _, ih h1 (fun k k0 k1 => hk k (by omega) (by omega)), ih h2 (fun k k0 k1 => hk k (by omega) k1)⟩)
theorem CXm.kx {o : Nat} {M : pm_M} {nd : List (Int × Int)} : ∀ {f : Nat} {n e : Int}, CXm o M f n e → (∀ k, n ≤ k → k ≤ e → gI M (o + 1) k = kdl nd k) → KXl nd f n e := by
  intro f
  induction f with
  | zero => intro n e h; exact h.elim
  | succ f ih =>
    intro n e h hk
    have hn := hk n (Int.le_refl _) h.le
    rcases h with ⟨a, h⟩ | ⟨a, -, h⟩ | ⟨a, -, -, h1, h2⟩
    · exact Or.inl ⟨by rw [← hn]; exact a, h⟩
    · exact Or.inr (Or.inl ⟨by rw [← hn]; exact a, ih h (fun k k0 k1 => hk k (by omega) k1)⟩)
    · have := h1.le
      have := h2.le
      exact Or.inr (Or.inr ⟨by rw [← hn]; exact a, _, ih h1 (fun k k0 k1 => hk k (by omega) (by omega)), ih h2 (fun k k0 k1 => hk k (by omega) k1)⟩)
/-- expressions in both rows are the same -/
theorem XC {M Mc : pm_M} {nd : List (Int × Int)} : ∀ {f : Nat} {n e : Int}, XB M f n e → ∀ {g : Nat}, CXm 2 Mc g n e → (∀ k, n ≤ k → k ≤ e → gI M 145 (100 + k) = kdl nd k ∧ gI Mc 3 k = kdl nd k) → ∀ k, n ≤ k → k ≤ e → ((kdl nd k = 6 ∨ kdl nd k = 7 → gI M 148 (100 + k) = k + 1) ∧ (kdl nd k = 7 → gI M 149 (100 + k) = gI Mc 8 k) ∧ (n < k → gI M 147 (100 + k) = gI Mc 6 k)) := by
  intro f
  induction f with
  | zero => intro n e h; exact h.elim
  | succ f ih =>
    intro n e h g h' hk k k0 k1
    cases g with
    | zero => exact h'.elim
    | succ g =>
    have hle := h.le
    obtain ⟨q1, q2⟩ := hk n (Int.le_refl _) hle
    rcases h with ⟨a, he⟩ | ⟨a, b, c, h1⟩ | ⟨a, b, c, d, h1, h2⟩
    · have ek : k = n := by omega
      subst ek
      rw [q1] at a
      exact ⟨fun z => by omega, fun z => by omega, fun z => by omega⟩
    · rw [q1] at a
      rcases h' with ⟨a', -⟩ | ⟨a', b', h1'⟩ | ⟨a', -⟩
      · rw [show gI Mc (2 + 1) n = kdl nd n from q2] at a'; omega
      · have hle1 := h1.le
        by_cases ek : k = n
        · subst ek
          exact ⟨fun _ => b, fun z => by omega, fun z => by omega⟩
        · have r := ih h1 h1' (fun k k0 k1 => hk k (by omega) k1) k (by omega) k1
          refine ⟨r.1, r.2.1, fun z => ?_⟩
          by_cases e1 : k = n + 1
          · rw [e1, c]; exact b'.symm
          · exact r.2.2 (by omega)
      · rw [show gI Mc (2 + 1) n = kdl nd n from q2] at a'; omega
    · rw [q1] at a
      rcases h' with ⟨a', -⟩ | ⟨a', -⟩ | ⟨a', b', c', h1', h2'⟩
      · rw [show gI Mc (2 + 1) n = kdl nd n from q2] at a'; omega
      · rw [show gI Mc (2 + 1) n = kdl nd n from q2] at a'; omega
      · have hle1 := h1.le
        have hle2 := h2.le
        have hle1' := h1'.le
        have hle2' := h2'.le
        have u1 := (h1.kx (nd := nd) (fun k k0 k1 => (hk k (by omega) (by omega)).1)).uniq (h1'.kx (nd := nd) (fun k k0 k1 => (hk k (by omega) (by omega)).2))
        have em : gI M 149 (100 + n) = gI Mc 8 n := by
          have : gI Mc (2 + 6) n = gI Mc 8 n := rfl
          omega
        have ec' : gI Mc 6 (gI Mc 8 n) = n := c'
        have eb' : gI Mc 6 (n + 1) = n := b'
        rw [em] at d h1 h2 hle1 hle2
        by_cases ek : k = n
        · subst ek
          exact ⟨fun _ => b, fun _ => em, fun z => by omega⟩
        by_cases hm : k < gI Mc 8 n
        · have r := ih h1 h1' (fun k k0 k1 => hk k (by omega) (by omega)) k (by omega) (by omega)
          refine ⟨r.1, r.2.1, fun z => ?_⟩
          by_cases e1 : k = n + 1
          · rw [e1, c]; exact eb'.symm
          · exact r.2.2 (by omega)
        · have r := ih h2 h2' (fun k k0 k1 => hk k (by omega) k1) k (by omega) k1
          refine ⟨r.1, r.2.1, fun z => ?_⟩
          by_cases e1 : k = gI Mc 8 n
          · rw [e1, d]; exact ec'.symm
          · exact r.2.2 (by omega)
/-- the reference's rows are the program's -/
theorem rp_of {M Mc : pm_M} {Q : Qs} (hW : WLs Q.1.2 Q.2) (h60 : Q.1.2.length ≤ 60) (hC : PrC 2 Q Mc) (hR : PrR Q M) : RP (mkP Mc Q.2) M ∧ gI M 142 22 = mkP Mc Q.2 2 18 ∧ RS (mkP Mc Q.2) M := by
  obtain ⟨c15, c17, cV, cN, cR, cL, cM⟩ := hC
  obtain ⟨⟨r0, r1, r60⟩, rN, rC, r153, rV, ⟨-, rd, -⟩⟩ := hR
  have hS : SrL Q.2 := SrL.of hW.srt
  have par : ∀ t ∈ Q.2, gI Mc 6 t.1 = t.2.1 ∧ gI Mc 13 t.1 = t.2.2.1 := fun t ht => cR.2.2 h60 t ht
  have kd : ∀ k, 0 ≤ k → k < (Q.1.2.length : Int) → gI Mc 3 k = kdl Q.1.2 k ∧ gI Mc 4 k = (Q.1.2.getD k.toNat (0, 0)).2 := fun k k0 k1 => by
    have := cN k.toNat (by omega)
    rw [Int.toNat_of_nonneg k0] at this; exact this
  have kr : ∀ k, 0 ≤ k → k < (Q.1.2.length : Int) → gI M 145 (100 + k) = kdl Q.1.2 k ∧ (¬ (kdl Q.1.2 k = 1 ∨ kdl Q.1.2 k = 2 ∨ kdl Q.1.2 k = 3) → gI M 146 (100 + k) = (Q.1.2.getD k.toNat (0, 0)).2) := fun k k0 k1 => by
    have := rN.2 k.toNat (by omega)
    rw [Int.toNat_of_nonneg k0] at this; exact this
  have cp : ∀ a, 145 ≤ a → a ≤ 152 → ∀ k, 0 ≤ k → k < (Q.1.2.length : Int) → gI M a k = gI M a (100 + k) := fun a a1 a2 k k0 k1 => by
    have := rC a a1 a2 k.toNat (by omega)
    rw [Int.toNat_of_nonneg k0] at this; exact this
  refine ⟨⟨?_, ?_, fun n n0 n1 => ?_⟩, ?_, ?_, fun i i0 i1 => ?_⟩
  · rw [mkP_lt (show 2 < 18 by decide), c15]; exact r0
  · rw [mkP_lt (show 2 < 18 by decide)]; exact r1.trans cR.1.symm
  · rw [mkP_lt (show 2 < 18 by decide), c15] at n1
    rw [mkP_lt (show 3 < 18 by decide), mkP_lt (show 4 < 18 by decide), mkP_lt (show 5 < 18 by decide), mkP_lt (show 8 < 18 by decide), mkP_lt (show 6 < 18 by decide)]
    obtain ⟨t, ht, q1, q2⟩ := hW.cover n0 n1
    obtain ⟨hb, hkk, ⟨gx, hx⟩, hp⟩ := hW.2.2.2.1 t ht
    obtain ⟨⟨d1, d2, d3, d4, d7, g5, d5⟩, dn⟩ := rd t ht hb.1
    obtain ⟨l1, l2, l3, ⟨g6, l4⟩, l5, -⟩ := cL t ht
    obtain ⟨pa, pb⟩ := par t ht
    obtain ⟨kc1, kc2⟩ := kd n n0 n1
    obtain ⟨kr1, kr2⟩ := kr n n0 n1
    have e153 : gI M 153 n = 0 := by
      have := r153 n.toNat (by omega)
      rw [Int.toNat_of_nonneg n0] at this; exact this
    have e5 : gI Mc 5 n = 0 := by
      have h5 : gI Mc 5 (n.toNat : Int) = 0 := cM n.toNat (by omega)
      rw [Int.toNat_of_nonneg n0] at h5; exact h5
    have xc := XC (nd := Q.1.2) d5 l4 (fun k k0 k1 => ⟨(kr k (by omega) (by omega)).1, (kd k (by omega) (by omega)).1⟩)
    have leaf : n ≠ t.1 → 4 ≤ kdl Q.1.2 n ∧ kdl Q.1.2 n ≤ 7 := fun z => hx.kd n (by omega) q2
    rw [e153, e5, kc1, kc2, cp 145 (by decide) (by decide) n n0 n1, cp 146 (by decide) (by decide) n n0 n1, cp 147 (by decide) (by decide) n n0 n1, cp 148 (by decide) (by decide) n n0 n1, cp 149 (by decide) (by decide) n n0 n1, cp 150 (by decide) (by decide) n n0 n1, cp 151 (by decide) (by decide) n n0 n1, cp 152 (by decide) (by decide) n n0 n1]
    refine ⟨kr1, fun z => kr2 (by omega), ⟨fun _ => Or.inl rfl, fun _ => by decide, by decide⟩, fun z => ?_, fun z => ?_, fun z => ?_, ?_⟩
    · by_cases e : n = t.1
      · rw [e]; exact d2
      · have := leaf e
        exact (xc n (by omega) q2).1 (by omega)
    · have e : n ≠ t.1 := fun y => by rw [y] at z; omega
      exact (xc n (by omega) q2).2.1 z
    · have e : n = t.1 := Decidable.byContradiction (fun y => by have := leaf y; omega)
      subst e
      refine ⟨?_, ?_, ?_⟩
      · show gI M 152 (100 + t.1) = fif Q.2 (gI Mc 6 t.1) (gI Mc 13 t.1) (t.1 + 1)
        rw [pa, pb]
        exact FiS.uniq dn (fif_spec hS)
      · show gI M 150 (100 + t.1) = fif Q.2 t.1 0 (t.1 + 1)
        exact FiS.uniq d3 (fif_spec hS)
      · show gI M 151 (100 + t.1) = fif Q.2 t.1 1 (t.1 + 1)
        exact FiS.uniq d4 (fif_spec hS)
    · by_cases e : n = t.1
      · rw [e, d1, pa]
      · by_cases e1 : n = t.1 + 1
        · rw [e1, d7]; exact l5.symm
        · exact (xc n (by omega) q2).2.2 (by omega)
  · rw [mkP_lt (show 2 < 18 by decide)]; exact rV.uniq cV
  · rw [mkP_lt (show 2 < 18 by decide), r60]; exact c17.symm
  · rw [mkP_lt (show 2 < 18 by decide), show gI Mc 2 17 = 0 from c17] at i1
    omega

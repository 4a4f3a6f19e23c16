-- needs 30 31 32 33a 33b 33c 33d 33e 33f 33g 33h 33i 33j 40 41 42 43 44 45 46 50 51
/-! nodes and their statements; what is left out -/
def PWx (P : Pg) : Prop := (∀ n, 0 ≤ n → n < P 2 15 → (0 ≤ P 3 n ∧ P 3 n ≤ 7) ∧ isSt P (P 7 n) ∧ P 7 n ≤ n ∧ n ≤ P 9 (P 7 n) ∧ (P 3 n ≤ 3 → P 7 n = n) ∧ (4 ≤ P 3 n → 0 ≤ P 6 n ∧ P 6 n < n ∧ P 7 (P 6 n) = P 7 n)) ∧ (∀ s n, isSt P s → s ≤ n → n ≤ P 9 s → P 7 n = s) ∧ (0 ≤ P 2 16 ∧ P 2 16 ≤ 20 ∧ ∀ s, isSt P s → P 23 s < P 2 16 ∧ P 14 (P 23 s) = s) ∧ (∀ i, 0 ≤ i → i < P 2 16 → isSt P (P 14 i) ∧ P 23 (P 14 i) = i) ∧ 0 ≤ P 2 15
def gone (P : Pg) (n : Int) : Prop := P 5 n = 1 ∨ P 5 (P 7 n) = 1 ∨ ¬ NLa P (P 7 n)
theorem NLa.iff {P : Pg} {s : Int} : NLa P s ↔ (P 6 s = -1 ∨ (¬ P 5 (P 6 s) = 1 ∧ NLa P (P 6 s))) := ⟨fun h => by
  by_cases hp : P 6 s = -1
  · exact Or.inl hp
  · exact Or.inr (h.up hp), NLa.of⟩
theorem isGone_r {P : Pg} {M : pm_M} {K : Int → pm_M → Prop} {n : Int} (hS : Sm P M) (h60 : P 2 15 ≤ 60) (ht : PWt P) (hx : PWx P) (hn : 0 ≤ n ∧ n < P 2 15) (h1 : gone P n → K 1 M) (h0 : ¬ gone P n → K 0 M) : k0_isGone n M K := by
  have g5 := hS 5 (by decide) (by decide)
  have g6 := hS 6 (by decide) (by decide)
  have g7 := hS 7 (by decide) (by decide)
  have loop : ∀ (k : Nat) (s up : Int), s.toNat ≤ k → isSt P s → 0 ≤ up → up + P 23 s ≤ 19 → (P 5 s = 1 ∨ ¬ NLa P s → K 1 M) → (¬ (P 5 s = 1 ∨ ¬ NLa P s) → K 0 M) → k0_isGone_21 s up M K := by
    intro k
    induction k with
    | zero =>
      intro s up hk hs u0 u1 q1 q0
      have s0 : 0 ≤ s := hs.1
      have s1 : s < P 2 15 := hs.2.1
      obtain ⟨tp, -, -, r0, -, -⟩ := ht.1 s hs
      have hp : P 6 s = -1 := by
        rcases tp with z | ⟨z1, z2, -⟩
        · exact z
        · have : 0 ≤ P 6 s := z1.1
          omega
      apply k0_isGone_21_r
      rw [if_pos (by omega), if_neg (by omega), g5, g6, hp]
      refine ⟨⟨s0, by omega⟩, ?_⟩
      by_cases h5 : P 5 s = 1
      · rw [if_pos h5]; exact q1 (Or.inl h5)
      · rw [if_neg h5]
        have hq := q0 (fun z => z.elim h5 (fun z => z (NLa.of (Or.inl hp))))
        apply k0_isGone_21_r
        rw [if_pos rfl]
        split <;> exact hq
    | succ k ih =>
      intro s up hk hs u0 u1 q1 q0
      have s0 : 0 ≤ s := hs.1
      have s1 : s < P 2 15 := hs.2.1
      obtain ⟨tp, -, -, r0, -, -⟩ := ht.1 s hs
      apply k0_isGone_21_r
      rw [if_pos (by omega), if_neg (by omega), g5, g6]
      refine ⟨⟨s0, by omega⟩, ?_⟩
      by_cases h5 : P 5 s = 1
      · rw [if_pos h5]; exact q1 (Or.inl h5)
      rw [if_neg h5, w32_id (show -2147483648 ≤ up + 1 ∧ up + 1 < 2147483648 by omega)]
      rcases tp with z | ⟨z1, z2, -⟩
      · have hq := q0 (fun y => y.elim h5 (fun y => y (NLa.of (Or.inl z))))
        rw [z]
        apply k0_isGone_21_r
        rw [if_pos rfl]
        split <;> exact hq
      · have p0 : 0 ≤ P 6 s := z1.1
        obtain ⟨-, -, -, -, -, rr⟩ := ht.1 _ z1
        have := rr s hs z2
        have e : (P 5 s = 1 ∨ ¬ NLa P s) ↔ (P 5 (P 6 s) = 1 ∨ ¬ NLa P (P 6 s)) := by
          rw [NLa.iff (s := s)]
          constructor
          · intro h
            rcases h with h | h
            · exact absurd h h5
            · by_cases y : P 5 (P 6 s) = 1
              · exact Or.inl y
              · exact Or.inr (fun w => h (Or.inr ⟨y, w⟩))
          · intro h
            refine Or.inr (fun w => ?_)
            rcases w with w | ⟨w1, w2⟩
            · omega
            · exact h.elim w1 (fun y => y w2)
        exact ih _ _ (by omega) z1 (by omega) (by omega) (fun y => q1 (e.mpr y)) (fun y => q0 (fun w => y (e.mp w)))
  obtain ⟨-, xs, -⟩ := hx.1 n hn.1 hn.2
  apply k0_isGone_r
  refine ⟨⟨hn.1, by omega⟩, ?_⟩
  rw [g5, g7]
  by_cases h5 : P 5 n = 1
  · rw [if_pos h5]; exact h1 (Or.inl h5)
  rw [if_neg h5]
  obtain ⟨-, -, -, r0, r1, -⟩ := ht.1 _ xs
  exact loop _ _ 0 (Nat.le_refl _) xs (by decide) (by omega) (fun z => h1 (Or.inr z)) (fun z => h0 (fun w => w.elim h5 z))
theorem cm_1 {b : Int} : cm b = 1 ↔ ¬ pm_iand b 1 ≤ 0 := by
  unfold cm
  by_cases z : pm_iand b 1 ≤ 0
  · rw [if_pos z]
    refine ⟨fun w => ?_, fun w => absurd z w⟩
    split at w
    · split at w <;> omega
    · omega
  · rw [if_neg z]; exact ⟨fun _ => z, fun _ => rfl⟩
theorem statementOf_r {P : Pg} {M : pm_M} {K : Int → pm_M → Prop} (h60 : P 2 15 ≤ 60) (hR : RP P M) (hx : PWx P) {n : Int} (hn : 0 ≤ n ∧ n < P 2 15) (hq : K (P 7 n) M) : k12_statementOf n M K := by
  apply k12_statementOf_r
  have loop : ∀ (k : Nat) (n : Int), n.toNat ≤ k → 0 ≤ n → n < P 2 15 → K (P 7 n) M → k12_statementOf_2 n M K := by
    intro k
    induction k with
    | zero =>
      intro n hk h0 h1 hq
      obtain ⟨q3, -⟩ := hR.2.2 n h0 h1
      obtain ⟨-, -, -, -, xo, xe⟩ := hx.1 n h0 h1
      apply k12_statementOf_2_r
      refine ⟨⟨h0, by omega⟩, ?_⟩
      rw [q3]
      by_cases h3 : P 3 n ≤ 3
      · rw [if_pos h3]; rw [xo h3] at hq; exact hq
      · have := xe (by omega); omega
    | succ k ih =>
      intro n hk h0 h1 hq
      obtain ⟨q3, -, -, -, -, -, q6⟩ := hR.2.2 n h0 h1
      obtain ⟨-, -, -, -, xo, xe⟩ := hx.1 n h0 h1
      apply k12_statementOf_2_r
      refine ⟨⟨h0, by omega⟩, ?_⟩
      rw [q3, q6]
      by_cases h3 : P 3 n ≤ 3
      · rw [if_pos h3]; rw [xo h3] at hq; exact hq
      · rw [if_neg h3]
        have := xe (by omega)
        exact ih _ (by omega) (by omega) (by omega) (by rw [this.2.2]; exact hq)
  exact loop _ n (Nat.le_refl _) hn.1 hn.2 hq
theorem up_lt {P : Pg} (ht : PWt P) (hx : PWx P) {n : Int} (h0 : 0 ≤ n) (h1 : n < P 2 15) : P 6 n = -1 ∨ (0 ≤ P 6 n ∧ P 6 n < n) := by
  obtain ⟨-, -, -, -, xo, xe⟩ := hx.1 n h0 h1
  by_cases h3 : P 3 n ≤ 3
  · obtain ⟨tp, -⟩ := ht.1 n ⟨h0, h1, h3⟩
    rcases tp with z | ⟨z1, z2, -⟩
    · exact Or.inl z
    · exact Or.inr ⟨z1.1, z2⟩
  · have := xe (by omega)
    exact Or.inr ⟨this.1, this.2.1⟩
theorem risGone_r {P : Pg} {M : pm_M} {K : Int → pm_M → Prop} {n : Int} (h60 : P 2 15 ≤ 60) (hR : RP P M) (ht : PWt P) (hx : PWx P) (hn : 0 ≤ n ∧ n < P 2 15) (h1 : gone P n → K 1 M) (h0 : ¬ gone P n → K 0 M) : k12_isGone n M K := by
  -- once it is so it stays so
  have l1 : K 1 M → ∀ (k : Nat) (x : Int), x.toNat ≤ k → (x = -1 ∨ (0 ≤ x ∧ x < P 2 15)) → k12_isGone_13 1 x M K := by
    intro hK k
    induction k with
    | zero =>
      intro x hk hx'
      apply k12_isGone_13_r
      by_cases e : x = -1
      · rw [if_pos e]; exact ⟨Or.inr rfl, hK⟩
      · rw [if_neg e, if_neg (by decide)]
        have hx2 := hx'.resolve_left e
        obtain ⟨-, -, -, -, -, -, q6⟩ := hR.2.2 x hx2.1 hx2.2
        refine ⟨⟨hx2.1, by omega⟩, ?_⟩
        rw [q6]
        have hu := up_lt ht hx hx2.1 hx2.2
        have : P 6 x = -1 := by omega
        rw [this]
        apply k12_isGone_13_r
        rw [if_pos rfl]; exact ⟨Or.inr rfl, hK⟩
    | succ k ih =>
      intro x hk hx'
      apply k12_isGone_13_r
      by_cases e : x = -1
      · rw [if_pos e]; exact ⟨Or.inr rfl, hK⟩
      · rw [if_neg e, if_neg (by decide)]
        have hx2 := hx'.resolve_left e
        obtain ⟨-, -, -, -, -, -, q6⟩ := hR.2.2 x hx2.1 hx2.2
        refine ⟨⟨hx2.1, by omega⟩, ?_⟩
        rw [q6]
        have hu := up_lt ht hx hx2.1 hx2.2
        refine ih _ (by omega) ?_
        rcases hu with z | z
        · exact Or.inl z
        · exact Or.inr ⟨z.1, by omega⟩
  have l0 : ∀ (k : Nat) (x : Int), x.toNat ≤ k → 0 ≤ x → x < P 2 15 → (P 5 (P 7 x) = 1 ∨ ¬ NLa P (P 7 x) → K 1 M) → (¬ (P 5 (P 7 x) = 1 ∨ ¬ NLa P (P 7 x)) → K 0 M) → k12_isGone_13 0 x M K := by
    intro k
    induction k with
    | zero =>
      intro x hk x0 x1 q1 q0
      obtain ⟨e3, -, ⟨-, -, e5⟩, -, -, -, q6⟩ := hR.2.2 x x0 x1
      obtain ⟨-, -, -, -, xo, xe⟩ := hx.1 x x0 x1
      have h3 : P 3 x ≤ 3 := by
        by_cases h3 : P 3 x ≤ 3
        · exact h3
        · have := xe (by omega); omega
      rw [xo h3] at q1 q0
      have hu := up_lt ht hx x0 x1
      have hp : P 6 x = -1 := by omega
      apply k12_isGone_13_r
      rw [if_neg (by omega), if_pos rfl, e3, if_pos h3, q6, hp]
      refine ⟨⟨x0, by omega⟩, ⟨x0, by omega⟩, ?_⟩
      by_cases z : pm_iand (gI M 153 x) 1 ≤ 0
      · rw [if_pos z]
        apply k12_isGone_13_r
        rw [if_pos rfl]
        refine ⟨Or.inl rfl, q0 (fun w => ?_)⟩
        rcases w with w | w
        · rw [e5, cm_1] at w; exact w z
        · exact w (NLa.of (Or.inl hp))
      · rw [if_neg z]
        apply k12_isGone_13_r
        rw [if_pos rfl]
        exact ⟨Or.inr rfl, q1 (Or.inl (by rw [e5, cm_1]; exact z))⟩
    | succ k ih =>
      intro x hk x0 x1 q1 q0
      obtain ⟨e3, -, ⟨-, -, e5⟩, -, -, -, q6⟩ := hR.2.2 x x0 x1
      obtain ⟨-, -, -, -, xo, xe⟩ := hx.1 x x0 x1
      apply k12_isGone_13_r
      rw [if_neg (by omega), if_pos rfl, e3, q6]
      refine ⟨⟨x0, by omega⟩, ?_⟩
      by_cases h3 : P 3 x ≤ 3
      · rw [if_pos h3]
        rw [xo h3] at q1 q0
        refine ⟨⟨x0, by omega⟩, ?_⟩
        have hst : isSt P x := ⟨x0, x1, h3⟩
        obtain ⟨tp, -⟩ := ht.1 x hst
        by_cases z : pm_iand (gI M 153 x) 1 ≤ 0
        · rw [if_pos z]
          have h5 : ¬ P 5 x = 1 := fun w => by rw [e5, cm_1] at w; exact w z
          rcases tp with y | ⟨y1, y2, -⟩
          · rw [y]
            apply k12_isGone_13_r
            rw [if_pos rfl]
            exact ⟨Or.inl rfl, q0 (fun w => w.elim h5 (fun w => w (NLa.of (Or.inl y))))⟩
          · have p0 : 0 ≤ P 6 x := y1.1
            have own : P 7 (P 6 x) = P 6 x := by
              obtain ⟨-, -, -, -, xo', -⟩ := hx.1 (P 6 x) y1.1 y1.2.1
              exact xo' y1.2.2
            have e : (P 5 x = 1 ∨ ¬ NLa P x) ↔ (P 5 (P 6 x) = 1 ∨ ¬ NLa P (P 6 x)) := by
              rw [NLa.iff (s := x)]
              constructor
              · intro h
                rcases h with h | h
                · exact absurd h h5
                · by_cases y : P 5 (P 6 x) = 1
                  · exact Or.inl y
                  · exact Or.inr (fun w => h (Or.inr ⟨y, w⟩))
              · intro h
                refine Or.inr (fun w => ?_)
                rcases w with w | ⟨w1, w2⟩
                · omega
                · exact h.elim w1 (fun y => y w2)
            exact ih _ (by omega) p0 y1.2.1 (by rw [own]; exact fun w => q1 (e.mpr w)) (by rw [own]; exact fun w => q0 (fun v => w (e.mp v)))
        · rw [if_neg z]
          refine l1 (q1 (Or.inl (by rw [e5, cm_1]; exact z))) _ _ (Nat.le_refl _) ?_
          rcases tp with y | ⟨y1, y2, -⟩
          · exact Or.inl y
          · exact Or.inr ⟨y1.1, y1.2.1⟩
      · rw [if_neg h3]
        have := xe (by omega)
        exact ih _ (by omega) this.1 (by omega) (by rw [this.2.2]; exact q1) (by rw [this.2.2]; exact q0)
  obtain ⟨e3, -, ⟨-, -, e5⟩, -, -, -, q6⟩ := hR.2.2 n hn.1 hn.2
  obtain ⟨-, -, -, -, xo, xe⟩ := hx.1 n hn.1 hn.2
  have hu := up_lt ht hx hn.1 hn.2
  apply k12_isGone_r
  refine ⟨⟨hn.1, by omega⟩, ?_⟩
  rw [q6]
  by_cases z : pm_iand (gI M 153 n) 1 ≤ 0
  · rw [if_pos z]
    have h5 : ¬ P 5 n = 1 := fun w => by rw [e5, cm_1] at w; exact w z
    by_cases h3 : P 3 n ≤ 3
    · have hst : isSt P n := ⟨hn.1, hn.2, h3⟩
      obtain ⟨tp, -⟩ := ht.1 n hst
      have eg : gone P n ↔ ¬ NLa P n := by
        unfold gone
        rw [xo h3]
        exact ⟨fun w => (w.resolve_left h5).resolve_left h5, fun w => Or.inr (Or.inr w)⟩
      rw [NLa.iff] at eg
      rcases tp with y | ⟨y1, y2, -⟩
      · rw [y]
        apply k12_isGone_13_r
        rw [if_pos rfl]
        exact ⟨Or.inl rfl, h0 (fun w => eg.mp w (Or.inl y))⟩
      · have own : P 7 (P 6 n) = P 6 n := by
          obtain ⟨-, -, -, -, xo', -⟩ := hx.1 (P 6 n) y1.1 y1.2.1
          exact xo' y1.2.2
        have p0 : 0 ≤ P 6 n := y1.1
        have eg2 : gone P n ↔ (P 5 (P 6 n) = 1 ∨ ¬ NLa P (P 6 n)) := by
          rw [eg]
          constructor
          · intro h
            by_cases y : P 5 (P 6 n) = 1
            · exact Or.inl y
            · exact Or.inr (fun w => h (Or.inr ⟨y, w⟩))
          · intro h w
            rcases w with w | ⟨w1, w2⟩
            · omega
            · exact h.elim w1 (fun y => y w2)
        exact l0 _ _ (Nat.le_refl _) p0 y1.2.1 (by rw [own]; exact fun w => h1 (eg2.mpr w)) (by rw [own]; exact fun w => h0 (fun v => w (eg2.mp v)))
    · have := xe (by omega)
      refine l0 _ _ (Nat.le_refl _) this.1 (by omega) ?_ ?_
      · rw [this.2.2]; exact fun w => h1 (Or.inr w)
      · rw [this.2.2]; exact fun w => h0 (fun v => v.elim h5 w)
  · rw [if_neg z]
    refine l1 (h1 (Or.inl (by rw [e5, cm_1]; exact z))) _ _ (Nat.le_refl _) ?_
    rcases hu with y | y
    · exact Or.inl y
    · exact Or.inr ⟨y.1, by omega⟩

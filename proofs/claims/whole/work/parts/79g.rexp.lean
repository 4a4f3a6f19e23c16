-- needs 30 31 32 33a 33b 33c 33d 33e 33f 33g 33h 33i 33j 40 41 42 43 44 45 46 50 51 52 53 54 79a 79aa 79b 79c 79d 79e
/-! the reference reads expressions: nodes put in -/
def RN (l : List (Int × Int)) (M : pm_M) : Prop := gI M 142 18 = (l.length : Int) ∧ ∀ i : Nat, i < l.length → gI M 145 (100 + (i : Int)) = (l.getD i (0, 0)).1 ∧ (¬ ((l.getD i (0, 0)).1 = 1 ∨ (l.getD i (0, 0)).1 = 2 ∨ (l.getD i (0, 0)).1 = 3) → gI M 146 (100 + (i : Int)) = (l.getD i (0, 0)).2)
def RSt (L : Int → Int) (N : Int) (S : Ps) (M : pm_M) : Prop := TpR L N M ∧ Hr S.1 M ∧ RN S.2 M
/-- an expression in the reference's rows: its nodes, what they are in -/
def XB (M : pm_M) : Nat → Int → Int → Prop
  | 0, _, _ => False
  | f + 1, n, e => ((gI M 145 (100 + n) = 4 ∨ gI M 145 (100 + n) = 5) ∧ e = n) ∨ (gI M 145 (100 + n) = 6 ∧ gI M 148 (100 + n) = n + 1 ∧ gI M 147 (100 + (n + 1)) = n ∧ XB M f (n + 1) e) ∨ (gI M 145 (100 + n) = 7 ∧ gI M 148 (100 + n) = n + 1 ∧ gI M 147 (100 + (n + 1)) = n ∧ gI M 147 (100 + gI M 149 (100 + n)) = n ∧ XB M f (n + 1) (gI M 149 (100 + n) - 1) ∧ XB M f (gI M 149 (100 + n)) e)
theorem XB.le {M : pm_M} : ∀ {f : Nat} {n e : Int}, XB M f n e → n ≤ e := by
  intro f
  induction f with
  | zero => intro n e h; exact h.elim
  | succ f ih =>
    intro n e h
    rcases h with ⟨-, h⟩ | ⟨-, -, -, h⟩ | ⟨-, -, -, -, h1, h2⟩
    · omega
    · have := ih h; omega
    · have := ih h1; have := ih h2; omega
theorem XB.mono {M : pm_M} : ∀ {f g : Nat} {n e : Int}, XB M f n e → f ≤ g → XB M g n e := by
  intro f
  induction f with
  | zero => intro g n e h; exact h.elim
  | succ f ih =>
    intro g n e h hg
    obtain ⟨g, rfl⟩ : ∃ k, g = k + 1 := ⟨g - 1, by omega⟩
    rcases h with h | ⟨a, b, c, h⟩ | ⟨a, b, c, d, h1, h2⟩
    · exact Or.inl h
    · exact Or.inr (Or.inl ⟨a, b, c, ih h (by omega)⟩)
    · exact Or.inr (Or.inr ⟨a, b, c, d, ih h1 (by omega), ih h2 (by omega)⟩)
/-- rows that are the same from one node to another -/
theorem XB.same {M M' : pm_M} : ∀ {f : Nat} {n e : Int}, XB M f n e → (∀ k, n ≤ k → k ≤ e → gI M' 145 (100 + k) = gI M 145 (100 + k) ∧ gI M' 148 (100 + k) = gI M 148 (100 + k) ∧ gI M' 149 (100 + k) = gI M 149 (100 + k)) → (∀ k, n < k → k ≤ e → gI M' 147 (100 + k) = gI M 147 (100 + k)) → XB M' f n e := by
  intro f
  induction f with
  | zero => intro n e h; exact h.elim
  | succ f ih =>
    intro n e h h1 h2
    have hle := h.le
    obtain ⟨a1, a2, a3⟩ := h1 n (Int.le_refl _) hle
    show ((gI M' 145 (100 + n) = 4 ∨ gI M' 145 (100 + n) = 5) ∧ e = n) ∨ (gI M' 145 (100 + n) = 6 ∧ gI M' 148 (100 + n) = n + 1 ∧ gI M' 147 (100 + (n + 1)) = n ∧ XB M' f (n + 1) e) ∨ (gI M' 145 (100 + n) = 7 ∧ gI M' 148 (100 + n) = n + 1 ∧ gI M' 147 (100 + (n + 1)) = n ∧ gI M' 147 (100 + gI M' 149 (100 + n)) = n ∧ XB M' f (n + 1) (gI M' 149 (100 + n) - 1) ∧ XB M' f (gI M' 149 (100 + n)) e)
    rw [a1, a2, a3]
    rcases h with h | ⟨a, b, c, h⟩ | ⟨a, b, c, d, x1, x2⟩
    · exact Or.inl h
    · have := h.le
      refine Or.inr (Or.inl ⟨a, b, ?_, ih h (fun k k1 k2 => h1 k (by omega) k2) (fun k k1 k2 => h2 k (by omega) k2)⟩)
      rw [h2 (n + 1) (by omega) (by omega)]; exact c
    · have := x1.le
      have := x2.le
      refine Or.inr (Or.inr ⟨a, b, ?_, ?_, ih x1 (fun k k1 k2 => h1 k (by omega) (by omega)) (fun k k1 k2 => h2 k (by omega) (by omega)), ih x2 (fun k k1 k2 => h1 k (by omega) k2) (fun k k1 k2 => h2 k (by omega) k2)⟩)
      · rw [h2 (n + 1) (by omega) (by omega)]; exact c
      · rw [h2 _ (by omega) (by omega)]; exact d
/-- rows moved by one -/
theorem XB.shift {M M' : pm_M} {at' : Int} : ∀ {f : Nat} {n e : Int}, XB M f n e → at' ≤ n → (∀ k, at' ≤ k → k ≤ e → gI M' 145 (100 + (k + 1)) = gI M 145 (100 + k) ∧ gI M' 148 (100 + (k + 1)) = (if gI M 148 (100 + k) < at' then gI M 148 (100 + k) else gI M 148 (100 + k) + 1) ∧ gI M' 149 (100 + (k + 1)) = (if gI M 149 (100 + k) < at' then gI M 149 (100 + k) else gI M 149 (100 + k) + 1)) → (∀ k, n < k → k ≤ e → gI M' 147 (100 + (k + 1)) = (if gI M 147 (100 + k) < at' then gI M 147 (100 + k) else gI M 147 (100 + k) + 1)) → XB M' f (n + 1) (e + 1) := by
  intro f
  induction f with
  | zero => intro n e h; exact h.elim
  | succ f ih =>
    intro n e h hn h1 h2
    have hle := h.le
    obtain ⟨a1, a2, a3⟩ := h1 n hn hle
    show ((gI M' 145 (100 + (n + 1)) = 4 ∨ gI M' 145 (100 + (n + 1)) = 5) ∧ e + 1 = n + 1) ∨ (gI M' 145 (100 + (n + 1)) = 6 ∧ gI M' 148 (100 + (n + 1)) = n + 1 + 1 ∧ gI M' 147 (100 + (n + 1 + 1)) = n + 1 ∧ XB M' f (n + 1 + 1) (e + 1)) ∨ (gI M' 145 (100 + (n + 1)) = 7 ∧ gI M' 148 (100 + (n + 1)) = n + 1 + 1 ∧ gI M' 147 (100 + (n + 1 + 1)) = n + 1 ∧ gI M' 147 (100 + gI M' 149 (100 + (n + 1))) = n + 1 ∧ XB M' f (n + 1 + 1) (gI M' 149 (100 + (n + 1)) - 1) ∧ XB M' f (gI M' 149 (100 + (n + 1))) (e + 1))
    rw [a1, a2, a3]
    rcases h with ⟨h, he⟩ | ⟨a, b, c, h⟩ | ⟨a, b, c, d, x1, x2⟩
    · exact Or.inl ⟨h, by omega⟩
    · have := h.le
      refine Or.inr (Or.inl ⟨a, ?_, ?_, ih h (by omega) (fun k k1 k2 => h1 k (by omega) k2) (fun k k1 k2 => h2 k (by omega) k2)⟩)
      · rw [b, if_neg (by omega)]
      · rw [h2 (n + 1) (by omega) (by omega), c, if_neg (by omega)]
    · have := x1.le
      have := x2.le
      rw [if_neg (show ¬ gI M 149 (100 + n) < at' by omega)]
      refine Or.inr (Or.inr ⟨a, ?_, ?_, ?_, ?_, ih x2 (by omega) (fun k k1 k2 => h1 k (by omega) k2) (fun k k1 k2 => h2 k (by omega) k2)⟩)
      · rw [b, if_neg (by omega)]
      · rw [h2 (n + 1) (by omega) (by omega), c, if_neg (by omega)]
      · rw [h2 _ (by omega) (by omega), d, if_neg (by omega)]
      · have := ih x1 (by omega) (fun k k1 k2 => h1 k (by omega) (by omega)) (fun k k1 k2 => h2 k (by omega) (by omega))
        rw [show gI M 149 (100 + n) - 1 + 1 = gI M 149 (100 + n) + 1 - 1 by omega] at this
        exact this
/-- what reading an expression from a node on writes -/
def qE (k a i : Nat) : Bool := (a == 142 && ((4 ≤ i && i ≤ 8) || i == 18 || i == 20)) || ((145 ≤ a && a ≤ 152) && 100 + k ≤ i)
theorem qE_mono {k k' a i : Nat} (hk : k' ≤ k) (h : qE k a i = true) : qE k' a i = true := by
  simp only [qE, Bool.or_eq_true, Bool.and_eq_true, beq_iff_eq, decide_eq_true_eq] at h ⊢
  omega
theorem adds_r {l : List (Int × Int)} {M : pm_M} {K : Int → pm_M → Prop} {x : Int × Int} {v p : Int} (hl : l.length < 650) (hR : RN l M) (hv : ¬ (x.1 = 1 ∨ x.1 = 2 ∨ x.1 = 3) → v = x.2)
    (hq : ∀ M', Fr (qE l.length) M M' → (∀ a i, a = 142 → i ≠ 18 → 0 ≤ i → gI M' a i = gI M a i) → RN (l ++ [x]) M' → gI M' 147 (100 + (l.length : Int)) = p → gI M' 148 (100 + (l.length : Int)) = -1 → gI M' 149 (100 + (l.length : Int)) = -1 → gI M' 150 (100 + (l.length : Int)) = -1 → gI M' 151 (100 + (l.length : Int)) = -1 → gI M' 152 (100 + (l.length : Int)) = -1 → K (l.length : Int) M') : k12_adds x.1 v p M K := by
  apply k12_adds_r
  rw [hR.1, w32_id (show -2147483648 ≤ 100 + (l.length : Int) ∧ 100 + (l.length : Int) < 2147483648 by omega), w32_id (show -2147483648 ≤ (l.length : Int) + 1 ∧ (l.length : Int) + 1 < 2147483648 by omega), w32_id (show -2147483648 ≤ (l.length : Int) + 1 - 1 ∧ (l.length : Int) + 1 - 1 < 2147483648 by omega), show (l.length : Int) + 1 - 1 = (l.length : Int) by omega]
  refine ⟨⟨by omega, by omega⟩, ?_⟩
  obtain ⟨j, hj⟩ : ∃ j : Int, j = 100 + (l.length : Int) := ⟨_, rfl⟩
  rw [← hj]
  have up : ∀ a, 145 ≤ a → a ≤ 152 → qE l.length a j.toNat = true := fun a a1 a2 => by simp [qE]; omega
  refine hq _ (((((((((Fr.rf.up _ (up 145 (by decide) (by decide))).up _ (up 146 (by decide) (by decide))).up _ (up 147 (by decide) (by decide))).up _ (up 148 (by decide) (by decide))).up _ (up 149 (by decide) (by decide))).up _ (up 150 (by decide) (by decide))).up _ (up 151 (by decide) (by decide))).up _ (up 152 (by decide) (by decide))).up _ (by simp [qE])) ?_ ⟨?_, ?_⟩ ?_ ?_ ?_ ?_ ?_ ?_
  · intro a i ha hi i0
    subst ha
    rw [gI_nf _ _ (by omega), gI_ne _ _ _ _ (by decide), gI_ne _ _ _ _ (by decide), gI_ne _ _ _ _ (by decide), gI_ne _ _ _ _ (by decide), gI_ne _ _ _ _ (by decide), gI_ne _ _ _ _ (by decide), gI_ne _ _ _ _ (by decide), gI_ne _ _ _ _ (by decide)]
  · rw [gI_eq, List.length_append]; simp only [List.length_singleton]; omega
  · intro i hi
    rw [List.length_append] at hi
    simp only [List.length_singleton] at hi
    have e145 : gI (upI (upI (upI (upI (upI (upI (upI (upI (upI M 145 j x.1) 146 j v) 147 j p) 148 j (-1)) 149 j (-1)) 150 j (-1)) 151 j (-1)) 152 j (-1)) 142 18 ((l.length : Int) + 1)) 145 (100 + (i : Int)) = if 100 + (i : Int) = j then x.1 else gI M 145 (100 + (i : Int)) := by
      rw [gI_ne _ _ _ _ (by decide), gI_ne _ _ _ _ (by decide), gI_ne _ _ _ _ (by decide), gI_ne _ _ _ _ (by decide), gI_ne _ _ _ _ (by decide), gI_ne _ _ _ _ (by decide), gI_ne _ _ _ _ (by decide), gI_ne _ _ _ _ (by decide), gI_up _ _ (by omega) (by omega)]
    have e146 : gI (upI (upI (upI (upI (upI (upI (upI (upI (upI M 145 j x.1) 146 j v) 147 j p) 148 j (-1)) 149 j (-1)) 150 j (-1)) 151 j (-1)) 152 j (-1)) 142 18 ((l.length : Int) + 1)) 146 (100 + (i : Int)) = if 100 + (i : Int) = j then v else gI M 146 (100 + (i : Int)) := by
      rw [gI_ne _ _ _ _ (by decide), gI_ne _ _ _ _ (by decide), gI_ne _ _ _ _ (by decide), gI_ne _ _ _ _ (by decide), gI_ne _ _ _ _ (by decide), gI_ne _ _ _ _ (by decide), gI_ne _ _ _ _ (by decide), gI_up _ _ (by omega) (by omega), gI_ne _ _ _ _ (by decide)]
    rw [e145, e146]
    by_cases e : i = l.length
    · subst e
      rw [if_pos hj.symm, if_pos hj.symm]
      have eg : (l ++ [x]).getD l.length (0, 0) = x := by rw [List.getD_eq_getElem?_getD, List.getElem?_append_right (Nat.le_refl _), Nat.sub_self]; rfl
      rw [eg]; exact ⟨rfl, hv⟩
    · rw [if_neg (by omega), if_neg (by omega)]
      have eg : (l ++ [x]).getD i (0, 0) = l.getD i (0, 0) := by rw [List.getD_eq_getElem?_getD, List.getD_eq_getElem?_getD, List.getElem?_append_left (by omega)]
      rw [eg]; exact hR.2 i (by omega)
  · rw [← hj, gI_ne _ _ _ _ (by decide), gI_ne _ _ _ _ (by decide), gI_ne _ _ _ _ (by decide), gI_ne _ _ _ _ (by decide), gI_ne _ _ _ _ (by decide), gI_ne _ _ _ _ (by decide), gI_eq]
  · rw [← hj, gI_ne _ _ _ _ (by decide), gI_ne _ _ _ _ (by decide), gI_ne _ _ _ _ (by decide), gI_ne _ _ _ _ (by decide), gI_ne _ _ _ _ (by decide), gI_eq]
  · rw [← hj, gI_ne _ _ _ _ (by decide), gI_ne _ _ _ _ (by decide), gI_ne _ _ _ _ (by decide), gI_ne _ _ _ _ (by decide), gI_eq]
  · rw [← hj, gI_ne _ _ _ _ (by decide), gI_ne _ _ _ _ (by decide), gI_ne _ _ _ _ (by decide), gI_eq]
  · rw [← hj, gI_ne _ _ _ _ (by decide), gI_ne _ _ _ _ (by decide), gI_eq]
  · rw [← hj, gI_ne _ _ _ _ (by decide), gI_eq]
/-- a node ahead of all from one on -/
theorem addsAhead_r {l : List (Int × Int)} {M : pm_M} {K : Int → pm_M → Prop} {k : Nat} {v p : Int} (hk : k < l.length) (hl : l.length < 650) (hR : RN l M) (hp : p < (k : Int))
    (hx : ∀ j : Nat, k ≤ j → j < l.length → ∀ r, r = 147 ∨ r = 148 ∨ r = 149 → gI M r (100 + (j : Int)) < 100000)
    (hq : ∀ M', Fr (qE k) M M' → (∀ i, i ≠ 18 → 0 ≤ i → gI M' 142 i = gI M 142 i) → RN (ins l k (7, v)) M' → gI M' 147 (100 + (k : Int)) = p → gI M' 148 (100 + (k : Int)) = (k : Int) + 1 → gI M' 149 (100 + (k : Int)) = -1 → gI M' 147 (100 + ((k : Int) + 1)) = (k : Int) →
      (∀ j : Int, (k : Int) ≤ j → j < (l.length : Int) → gI M' 145 (100 + (j + 1)) = gI M 145 (100 + j) ∧ gI M' 148 (100 + (j + 1)) = (if gI M 148 (100 + j) < (k : Int) then gI M 148 (100 + j) else gI M 148 (100 + j) + 1) ∧ gI M' 149 (100 + (j + 1)) = (if gI M 149 (100 + j) < (k : Int) then gI M 149 (100 + j) else gI M 149 (100 + j) + 1)) → (∀ j : Int, (k : Int) < j → j < (l.length : Int) → gI M' 147 (100 + (j + 1)) = (if gI M 147 (100 + j) < (k : Int) then gI M 147 (100 + j) else gI M 147 (100 + j) + 1)) → K (k : Int) M') : k12_addsAhead (k : Int) 7 v p M K := by
  apply k12_addsAhead_r
  refine adds_r (x := (7, v)) hl hR (fun _ => rfl) (fun M1 f1 o1 r1 a147 a148 a149 a150 a151 a152 => ?_)
  clear a147 a148 a149 a150 a151 a152
  rw [w32_id (show -2147483648 ≤ 100 + (l.length : Int) ∧ 100 + (l.length : Int) < 2147483648 by omega)]
  have old : ∀ a j, 145 ≤ a → a ≤ 149 → 0 ≤ j → j < (l.length : Int) → gI M1 a (100 + j) = gI M a (100 + j) := fun a j a1 a2 j0 j1 => f1.g (by simp [qE]; omega)
  have w1 : w32 (100 + (k : Int)) = 100 + (k : Int) := w32_id (by omega)
  have w2 : w32 (100 + (k : Int) + 1) = 100 + (k : Int) + 1 := w32_id (by omega)
  have w3 : w32 ((k : Int) + 1) = (k : Int) + 1 := w32_id (by omega)
  have loop : ∀ (d : Nat) (q : Int) (M2 : pm_M), q = (k : Int) + d → q ≤ (l.length : Int) → Fr (qE k) M M2 → (∀ i, i ≠ 18 → 0 ≤ i → gI M2 142 i = gI M 142 i) → gI M2 142 18 = (l.length : Int) + 1 → (∀ a j, 145 ≤ a → a ≤ 149 → 0 ≤ j → j < q → gI M2 a (100 + j) = gI M a (100 + j)) → (∀ j, q ≤ j → j < (l.length : Int) → gI M2 145 (100 + (j + 1)) = gI M 145 (100 + j) ∧ gI M2 146 (100 + (j + 1)) = gI M 146 (100 + j) ∧ gI M2 147 (100 + (j + 1)) = (if gI M 147 (100 + j) < (k : Int) then gI M 147 (100 + j) else gI M 147 (100 + j) + 1) ∧ gI M2 148 (100 + (j + 1)) = (if gI M 148 (100 + j) < (k : Int) then gI M 148 (100 + j) else gI M 148 (100 + j) + 1) ∧ gI M2 149 (100 + (j + 1)) = (if gI M 149 (100 + j) < (k : Int) then gI M 149 (100 + j) else gI M 149 (100 + j) + 1)) → k12_addsAhead_17 (k : Int) 7 v p (100 + q) M2 K := by
    intro d
    induction d with
    | zero =>
      intro q M2 hqd hql f2 o2 e18 h2 h3
      have eq : q = (k : Int) := by omega
      subst eq
      apply k12_addsAhead_17_r
      rw [w1, w2, w3, if_pos (Int.le_refl _)]
      refine ⟨⟨by omega, by omega⟩, ⟨by omega, by omega⟩, ?_⟩
      obtain ⟨c, hc⟩ : ∃ c : Int, c = 100 + (k : Int) := ⟨_, rfl⟩
      rw [← hc]
      have up : ∀ a i, 145 ≤ a → a ≤ 152 → c ≤ i → qE k a i.toNat = true := fun a i a1 a2 h => by simp [qE]; omega
      have r145 : ∀ i, 0 ≤ i → gI (upI (upI (upI (upI (upI (upI M2 145 c 7) 146 c v) 147 c p) 148 c ((k : Int) + 1)) 149 c (-1)) 147 (c + 1) (k : Int)) 145 i = if i = c then 7 else gI M2 145 i := fun i i0 => by
        rw [gI_ne _ _ _ _ (by decide), gI_ne _ _ _ _ (by decide), gI_ne _ _ _ _ (by decide), gI_ne _ _ _ _ (by decide), gI_ne _ _ _ _ (by decide), gI_up _ _ (by omega) i0]
      have r146 : ∀ i, 0 ≤ i → gI (upI (upI (upI (upI (upI (upI M2 145 c 7) 146 c v) 147 c p) 148 c ((k : Int) + 1)) 149 c (-1)) 147 (c + 1) (k : Int)) 146 i = if i = c then v else gI M2 146 i := fun i i0 => by
        rw [gI_ne _ _ _ _ (by decide), gI_ne _ _ _ _ (by decide), gI_ne _ _ _ _ (by decide), gI_ne _ _ _ _ (by decide), gI_up _ _ (by omega) i0, gI_ne _ _ _ _ (by decide)]
      have r147 : ∀ i, 0 ≤ i → gI (upI (upI (upI (upI (upI (upI M2 145 c 7) 146 c v) 147 c p) 148 c ((k : Int) + 1)) 149 c (-1)) 147 (c + 1) (k : Int)) 147 i = if i = c + 1 then (k : Int) else if i = c then p else gI M2 147 i := fun i i0 => by
        rw [gI_up _ _ (by omega) i0, gI_ne _ _ _ _ (by decide), gI_ne _ _ _ _ (by decide), gI_up _ _ (by omega) i0, gI_ne _ _ _ _ (by decide), gI_ne _ _ _ _ (by decide)]
      have r148 : ∀ i, 0 ≤ i → gI (upI (upI (upI (upI (upI (upI M2 145 c 7) 146 c v) 147 c p) 148 c ((k : Int) + 1)) 149 c (-1)) 147 (c + 1) (k : Int)) 148 i = if i = c then (k : Int) + 1 else gI M2 148 i := fun i i0 => by
        rw [gI_ne _ _ _ _ (by decide), gI_ne _ _ _ _ (by decide), gI_up _ _ (by omega) i0, gI_ne _ _ _ _ (by decide), gI_ne _ _ _ _ (by decide), gI_ne _ _ _ _ (by decide)]
      have r149 : ∀ i, 0 ≤ i → gI (upI (upI (upI (upI (upI (upI M2 145 c 7) 146 c v) 147 c p) 148 c ((k : Int) + 1)) 149 c (-1)) 147 (c + 1) (k : Int)) 149 i = if i = c then -1 else gI M2 149 i := fun i i0 => by
        rw [gI_ne _ _ _ _ (by decide), gI_up _ _ (by omega) i0, gI_ne _ _ _ _ (by decide), gI_ne _ _ _ _ (by decide), gI_ne _ _ _ _ (by decide), gI_ne _ _ _ _ (by decide)]
      have r142 : ∀ i, gI (upI (upI (upI (upI (upI (upI M2 145 c 7) 146 c v) 147 c p) 148 c ((k : Int) + 1)) 149 c (-1)) 147 (c + 1) (k : Int)) 142 i = gI M2 142 i := fun i => by
        rw [gI_ne _ _ _ _ (by decide), gI_ne _ _ _ _ (by decide), gI_ne _ _ _ _ (by decide), gI_ne _ _ _ _ (by decide), gI_ne _ _ _ _ (by decide), gI_ne _ _ _ _ (by decide)]
      have ff : Fr (qE k) M (upI (upI (upI (upI (upI (upI M2 145 c 7) 146 c v) 147 c p) 148 c ((k : Int) + 1)) 149 c (-1)) 147 (c + 1) (k : Int)) := (((((f2.up _ (up 145 c (by decide) (by decide) (Int.le_refl _))).up _ (up 146 c (by decide) (by decide) (Int.le_refl _))).up _ (up 147 c (by decide) (by decide) (Int.le_refl _))).up _ (up 148 c (by decide) (by decide) (Int.le_refl _))).up _ (up 149 c (by decide) (by decide) (Int.le_refl _))).up _ (up 147 (c + 1) (by decide) (by decide) (by omega))
      generalize upI (upI (upI (upI (upI (upI M2 145 c 7) 146 c v) 147 c p) 148 c ((k : Int) + 1)) 149 c (-1)) 147 (c + 1) (k : Int) = M3 at *
      refine hq M3 ff (fun i i1 i0 => by rw [r142]; exact o2 i i1 i0) ⟨?_, ?_⟩ ?_ ?_ ?_ ?_ ?_ ?_
      · rw [r142, e18, ins_len (by omega)]; omega
      · intro i hi
        rw [ins_len (by omega)] at hi
        rw [r145 _ (by omega), r146 _ (by omega), ins_get (by omega)]
        by_cases a : i < k
        · rw [if_pos a, if_neg (by omega), if_neg (by omega), h2 145 i (by decide) (by decide) (by omega) (by omega), h2 146 i (by decide) (by decide) (by omega) (by omega)]
          exact hR.2 i (by omega)
        rw [if_neg a]
        by_cases b : i = k
        · subst b
          rw [if_pos rfl, if_pos hc.symm, if_pos hc.symm]; exact ⟨rfl, fun _ => rfl⟩
        · rw [if_neg b, if_neg (by omega), if_neg (by omega)]
          have := h3 ((i : Int) - 1) (by omega) (by omega)
          rw [show (i : Int) - 1 + 1 = (i : Int) by omega] at this
          rw [this.1, this.2.1]
          have h4 := hR.2 (i - 1) (by omega)
          rw [show (((i - 1 : Nat)) : Int) = (i : Int) - 1 by omega] at h4
          exact h4
      · rw [← hc, r147 _ (by omega), if_neg (by omega), if_pos rfl]
      · rw [← hc, r148 _ (by omega), if_pos rfl]
      · rw [← hc, r149 _ (by omega), if_pos rfl]
      · rw [show 100 + ((k : Int) + 1) = c + 1 by omega, r147 _ (by omega), if_pos rfl]
      · intro j j0 j1
        have hne : ¬ 100 + (j + 1) = c := by omega
        rw [r145 _ (by omega), r148 _ (by omega), r149 _ (by omega), if_neg hne, if_neg hne, if_neg hne]
        have := h3 j j0 j1
        exact ⟨this.1, this.2.2.2.1, this.2.2.2.2⟩
      · intro j j0 j1
        have hne : ¬ 100 + (j + 1) = c := by omega
        have hne1 : ¬ 100 + (j + 1) = c + 1 := by omega
        rw [r147 _ (by omega), if_neg hne1, if_neg hne]
        exact (h3 j (by omega) j1).2.2.1
    | succ d ih =>
      intro q M2 hqd hql f2 o2 e18 h2 h3
      apply k12_addsAhead_17_r
      have wq : w32 (100 + q - 1) = 100 + (q - 1) := by rw [w32_id (by omega)]; omega
      have wq' : w32 (100 + q + (-1)) = 100 + (q - 1) := by rw [w32_id (by omega)]; omega
      rw [w1, if_neg (by omega), wq, wq', h2 145 (q - 1) (by decide) (by decide) (by omega) (by omega), h2 146 (q - 1) (by decide) (by decide) (by omega) (by omega), h2 147 (q - 1) (by decide) (by decide) (by omega) (by omega), h2 148 (q - 1) (by decide) (by decide) (by omega) (by omega), h2 149 (q - 1) (by decide) (by decide) (by omega) (by omega)]
      refine ⟨⟨by omega, by omega⟩, ⟨by omega, by omega⟩, ?_⟩
      have hb := hx (q - 1).toNat (by omega) (by omega)
      rw [Int.toNat_of_nonneg (by omega)] at hb
      have b7 := hb 147 (by simp)
      have b8 := hb 148 (by simp)
      have b9 := hb 149 (by simp)
      have put : ∀ x7 x8 x9, x7 = (if gI M 147 (100 + (q - 1)) < (k : Int) then gI M 147 (100 + (q - 1)) else gI M 147 (100 + (q - 1)) + 1) → x8 = (if gI M 148 (100 + (q - 1)) < (k : Int) then gI M 148 (100 + (q - 1)) else gI M 148 (100 + (q - 1)) + 1) → x9 = (if gI M 149 (100 + (q - 1)) < (k : Int) then gI M 149 (100 + (q - 1)) else gI M 149 (100 + (q - 1)) + 1) → k12_addsAhead_17 (k : Int) 7 v p (100 + (q - 1)) (upI (upI (upI (upI (upI M2 145 (100 + q) (gI M 145 (100 + (q - 1)))) 146 (100 + q) (gI M 146 (100 + (q - 1)))) 147 (100 + q) x7) 148 (100 + q) x8) 149 (100 + q) x9) K := by
        intro x7 x8 x9 hx7 hx8 hx9
        obtain ⟨c, hc⟩ : ∃ c : Int, c = 100 + q := ⟨_, rfl⟩
        rw [← hc]
        have up : ∀ a, 145 ≤ a → a ≤ 152 → qE k a c.toNat = true := fun a a1 a2 => by simp [qE]; omega
        refine ih (q - 1) _ (by omega) (by omega) (((((f2.up _ (up 145 (by decide) (by decide))).up _ (up 146 (by decide) (by decide))).up _ (up 147 (by decide) (by decide))).up _ (up 148 (by decide) (by decide))).up _ (up 149 (by decide) (by decide))) (fun i i1 i0 => ?_) ?_ (fun a j a1 a2 j0 j1 => ?_) (fun j j0 j1 => ?_)
        · rw [gI_ne _ _ _ _ (by decide), gI_ne _ _ _ _ (by decide), gI_ne _ _ _ _ (by decide), gI_ne _ _ _ _ (by decide), gI_ne _ _ _ _ (by decide)]; exact o2 i i1 i0
        · rw [gI_ne _ _ _ _ (by decide), gI_ne _ _ _ _ (by decide), gI_ne _ _ _ _ (by decide), gI_ne _ _ _ _ (by decide), gI_ne _ _ _ _ (by decide)]; exact e18
        · rw [gI_nf _ _ (by omega), gI_nf _ _ (by omega), gI_nf _ _ (by omega), gI_nf _ _ (by omega), gI_nf _ _ (by omega)]; exact h2 a j a1 a2 j0 (by omega)
        · by_cases e : j = q - 1
          · subst e
            rw [show 100 + (q - 1 + 1) = c by omega]
            refine ⟨?_, ?_, ?_, ?_, ?_⟩
            · rw [gI_ne _ _ _ _ (by decide), gI_ne _ _ _ _ (by decide), gI_ne _ _ _ _ (by decide), gI_ne _ _ _ _ (by decide), gI_eq]
            · rw [gI_ne _ _ _ _ (by decide), gI_ne _ _ _ _ (by decide), gI_ne _ _ _ _ (by decide), gI_eq]
            · rw [gI_ne _ _ _ _ (by decide), gI_ne _ _ _ _ (by decide), gI_eq]; exact hx7
            · rw [gI_ne _ _ _ _ (by decide), gI_eq]; exact hx8
            · rw [gI_eq]; exact hx9
          · have := h3 j (by omega) j1
            refine ⟨?_, ?_, ?_, ?_, ?_⟩
            · rw [gI_nf _ _ (by omega), gI_nf _ _ (by omega), gI_nf _ _ (by omega), gI_nf _ _ (by omega), gI_nf _ _ (by omega)]; exact this.1
            · rw [gI_nf _ _ (by omega), gI_nf _ _ (by omega), gI_nf _ _ (by omega), gI_nf _ _ (by omega), gI_nf _ _ (by omega)]; exact this.2.1
            · rw [gI_nf _ _ (by omega), gI_nf _ _ (by omega), gI_nf _ _ (by omega), gI_nf _ _ (by omega), gI_nf _ _ (by omega)]; exact this.2.2.1
            · rw [gI_nf _ _ (by omega), gI_nf _ _ (by omega), gI_nf _ _ (by omega), gI_nf _ _ (by omega), gI_nf _ _ (by omega)]; exact this.2.2.2.1
            · rw [gI_nf _ _ (by omega), gI_nf _ _ (by omega), gI_nf _ _ (by omega), gI_nf _ _ (by omega), gI_nf _ _ (by omega)]; exact this.2.2.2.2
      have y7 : ∀ x : Int, x < 100000 → ¬ x < (k : Int) → w32 (x + 1) = x + 1 := fun x a b => w32_id (by omega)
      by_cases c7 : gI M 147 (100 + (q - 1)) < (k : Int)
      · rw [if_pos c7]
        by_cases c8 : gI M 148 (100 + (q - 1)) < (k : Int)
        · rw [if_pos c8]
          by_cases c9 : gI M 149 (100 + (q - 1)) < (k : Int)
          · rw [if_pos c9]; exact put _ _ _ (by rw [if_pos c7]) (by rw [if_pos c8]) (by rw [if_pos c9])
          · rw [if_neg c9, y7 _ b9 c9]; exact put _ _ _ (by rw [if_pos c7]) (by rw [if_pos c8]) (by rw [if_neg c9])
        · rw [if_neg c8, y7 _ b8 c8]
          by_cases c9 : gI M 149 (100 + (q - 1)) < (k : Int)
          · rw [if_pos c9]; exact put _ _ _ (by rw [if_pos c7]) (by rw [if_neg c8]) (by rw [if_pos c9])
          · rw [if_neg c9, y7 _ b9 c9]; exact put _ _ _ (by rw [if_pos c7]) (by rw [if_neg c8]) (by rw [if_neg c9])
      · rw [if_neg c7, y7 _ b7 c7]
        by_cases c8 : gI M 148 (100 + (q - 1)) < (k : Int)
        · rw [if_pos c8]
          by_cases c9 : gI M 149 (100 + (q - 1)) < (k : Int)
          · rw [if_pos c9]; exact put _ _ _ (by rw [if_neg c7]) (by rw [if_pos c8]) (by rw [if_pos c9])
          · rw [if_neg c9, y7 _ b9 c9]; exact put _ _ _ (by rw [if_neg c7]) (by rw [if_pos c8]) (by rw [if_neg c9])
        · rw [if_neg c8, y7 _ b8 c8]
          by_cases c9 : gI M 149 (100 + (q - 1)) < (k : Int)
          · rw [if_pos c9]; exact put _ _ _ (by rw [if_neg c7]) (by rw [if_neg c8]) (by rw [if_pos c9])
          · rw [if_neg c9, y7 _ b9 c9]; exact put _ _ _ (by rw [if_neg c7]) (by rw [if_neg c8]) (by rw [if_neg c9])
  exact loop (l.length - k) (l.length : Int) M1 (by omega) (Int.le_refl _) (f1.mono (fun a i h => qE_mono (by omega) h)) (fun i i1 i0 => o1 142 i rfl i1 i0) (by rw [r1.1, List.length_append]; simp only [List.length_singleton]; omega) old (fun j j0 j1 => absurd j1 (by omega))

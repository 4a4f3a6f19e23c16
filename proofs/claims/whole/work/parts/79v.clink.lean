/-! expressions and ways linked -/
theorem KXl.sub {l : List (Int × Int)} : ∀ {f : Nat} {n e : Int}, KXl l f n e → ∀ m, n ≤ m → m ≤ e → ∃ f' e', KXl l f' m e' ∧ e' ≤ e := by
  intro f
  induction f with
  | zero => intro n e h; exact h.elim
  | succ f ih =>
    intro n e h m h1 h2
    by_cases hm : m = n
    · subst hm; exact ⟨f + 1, e, h, Int.le_refl _⟩
    · rcases h with ⟨-, h⟩ | ⟨-, h⟩ | ⟨-, q, ha, hb⟩
      · omega
      · exact ih h m (by omega) h2
      · by_cases hs : m < q
        · obtain ⟨f', e', q1, q2⟩ := ih ha m (by omega) (by omega)
          have := hb.le
          exact ⟨f', e', q1, by omega⟩
        · exact ih hb m (by omega) h2
/-- an expression in the rows: its nodes, what they are in -/
def CXm (o : Nat) (M : pm_M) : Nat → Int → Int → Prop
  | 0, _, _ => False
  | f + 1, n, e => ((gI M (o + 1) n = 4 ∨ gI M (o + 1) n = 5) ∧ e = n) ∨ (gI M (o + 1) n = 6 ∧ gI M (o + 4) (n + 1) = n ∧ CXm o M f (n + 1) e) ∨ (gI M (o + 1) n = 7 ∧ gI M (o + 4) (n + 1) = n ∧ gI M (o + 4) (gI M (o + 6) n) = n ∧ CXm o M f (n + 1) (gI M (o + 6) n - 1) ∧ CXm o M f (gI M (o + 6) n) e)
theorem CXm.le {o : Nat} {M : pm_M} : ∀ {f : Nat} {n e : Int}, CXm o M f n e → n ≤ e := by
  intro f
  induction f with
  | zero => intro n e h; exact h.elim
  | succ f ih =>
    intro n e h
    rcases h with ⟨-, h⟩ | ⟨-, -, h⟩ | ⟨-, -, -, h1, h2⟩
    · omega
    · have := ih h; omega
    · have := ih h1; have := ih h2; omega
theorem CXm.mono {o : Nat} {M : pm_M} : ∀ {f g : Nat} {n e : Int}, CXm o M f n e → f ≤ g → CXm o M g n e := by
  intro f
  induction f with
  | zero => intro g n e h; exact h.elim
  | succ f ih =>
    intro g n e h hg
    obtain ⟨g, rfl⟩ : ∃ k, g = k + 1 := ⟨g - 1, by omega⟩
    rcases h with h | ⟨a, b, h⟩ | ⟨a, b, c, h1, h2⟩
    · exact Or.inl h
    · exact Or.inr (Or.inl ⟨a, b, ih h (by omega)⟩)
    · exact Or.inr (Or.inr ⟨a, b, c, ih h1 (by omega), ih h2 (by omega)⟩)
theorem CXm.same {o : Nat} {M M' : pm_M} : ∀ {f : Nat} {n e : Int}, CXm o M f n e → (∀ k, n ≤ k → k ≤ e → gI M' (o + 1) k = gI M (o + 1) k ∧ gI M' (o + 6) k = gI M (o + 6) k) → (∀ k, n < k → k ≤ e → gI M' (o + 4) k = gI M (o + 4) k) → CXm o M' f n e := by
  intro f
  induction f with
  | zero => intro n e h; exact h.elim
  | succ f ih =>
    intro n e h h1 h2
    have hle := h.le
    obtain ⟨a1, a2⟩ := h1 n (Int.le_refl _) hle
    show ((gI M' (o + 1) n = 4 ∨ gI M' (o + 1) n = 5) ∧ e = n) ∨ (gI M' (o + 1) n = 6 ∧ gI M' (o + 4) (n + 1) = n ∧ CXm o M' f (n + 1) e) ∨ (gI M' (o + 1) n = 7 ∧ gI M' (o + 4) (n + 1) = n ∧ gI M' (o + 4) (gI M' (o + 6) n) = n ∧ CXm o M' f (n + 1) (gI M' (o + 6) n - 1) ∧ CXm o M' f (gI M' (o + 6) n) e)
    rw [a1, a2]
    rcases h with h | ⟨a, b, h⟩ | ⟨a, b, c, x1, x2⟩
    · exact Or.inl h
    · have := h.le
      refine Or.inr (Or.inl ⟨a, ?_, ih h (fun k k1 k2 => h1 k (by omega) k2) (fun k k1 k2 => h2 k (by omega) k2)⟩)
      rw [h2 (n + 1) (by omega) (by omega)]; exact b
    · have := x1.le
      have := x2.le
      refine Or.inr (Or.inr ⟨a, ?_, ?_, ih x1 (fun k k1 k2 => h1 k (by omega) (by omega)) (fun k k1 k2 => h2 k (by omega) (by omega)), ih x2 (fun k k1 k2 => h1 k (by omega) k2) (fun k k1 k2 => h2 k (by omega) k2)⟩)
      · rw [h2 (n + 1) (by omega) (by omega)]; exact b
      · rw [h2 _ (by omega) (by omega)]; exact c
/-- what linking an expression writes -/
def pX (o : Nat) (s e : Int) (a i : Nat) : Bool := (a == o + 4 || a == o + 5 || a == o + 6 || a == o + 7) && (decide (s < (i : Int)) && decide ((i : Int) ≤ e))
/-- what is linked of the nodes from one on -/
def XI (o : Nat) (l : List (Int × Int)) (s e n : Int) (M : pm_M) : Prop := ∀ m, n < m → m ≤ e → gI M (o + 5) m = s ∧ ∀ f e', KXl l f m e' → e' ≤ e → gI M (o + 7) m = e' ∧ ∃ g, CXm o M g m e'
theorem linkX_r {o : Nat} (ho : o = 2 ∨ o = 36) {l : List (Int × Int)} {s e : Int} {g : Nat} {M : pm_M} {K : pm_M → Prop} (h60 : l.length ≤ 60) (hk : ∀ i : Nat, i < l.length → gI M (o + 1) (i : Int) = (l.getD i (0, 0)).1) (hs : 0 ≤ s) (he : e < (l.length : Int)) (hX : KXl l g (s + 1) e) (h9 : gI M (o + 7) s = e)
    (hq : ∀ M', Fr (pX o s e) M M' → (∀ m, s < m → m ≤ e → gI M' (o + 5) m = s) → (∃ g, CXm o M' g (s + 1) e) → gI M' (o + 4) (s + 1) = s → K M') : k0_linkExpression o s M K := by
  have hle := hX.le
  have kk : ∀ n, 0 ≤ n → n < (l.length : Int) → gI M (o + 1) n = kdl l n := fun n n0 n1 => by
    have := hk n.toNat (by omega)
    rw [Int.toNat_of_nonneg n0] at this; exact this
  apply k0_linkExpression_r ho
  refine ⟨⟨hs, by omega⟩, ?_⟩
  rw [h9]
  have loop : ∀ (d : Nat) (n : Int) (M1 : pm_M), n = s + d → n ≤ e → Fr (pX o s e) M M1 → XI o l s e n M1 → k0_linkExpression_7 o s n M1 K := by
    intro d
    induction d with
    | zero =>
      intro n M1 hn hne f1 x1
      have en : n = s := by omega
      subst en
      apply k0_linkExpression_7_r ho
      rw [if_pos (Int.le_refl _), w32_id (show -2147483648 ≤ n + 1 ∧ n + 1 < 2147483648 by omega)]
      refine ⟨⟨by omega, by omega⟩, ?_⟩
      obtain ⟨-, x2⟩ := x1 (n + 1) (by omega) hle
      obtain ⟨-, g', x3⟩ := x2 g e hX (Int.le_refl _)
      refine hq _ (f1.up _ (by simp [pX] <;> omega)) (fun m m0 m1 => ?_) ⟨g', x3.same (fun k k0 k1 => ⟨gI_ne _ _ _ _ (by omega), gI_ne _ _ _ _ (by omega)⟩) (fun k k0 k1 => gI_nf _ _ (by omega))⟩ (gI_eq _ _ _ _)
      rw [gI_ne _ _ _ _ (by omega)]; exact (x1 m m0 m1).1
    | succ d ih =>
      intro n M1 hn hne f1 x1
      apply k0_linkExpression_7_r ho
      have wn : w32 (n + (-1)) = n - 1 := by rw [w32_id (by omega)]; omega
      have wn1 : w32 (n + 1) = n + 1 := w32_id (by omega)
      rw [if_neg (by omega), wn]
      refine ⟨⟨by omega, by omega⟩, ?_⟩
      have kn : gI M1 (o + 1) n = kdl l n := by rw [f1.g (by simp [pX] <;> omega)]; exact kk n (by omega) (by omega)
      rw [kn]
      obtain ⟨f', en, hK, hKe⟩ := hX.sub n (by omega) hne
      have hKle := hK.le
      -- the first two rows written
      obtain ⟨A, hA⟩ : ∃ A, A = upI (upI M1 (o + 5) n s) (o + 7) n n := ⟨_, rfl⟩
      rw [← hA]
      have fA : Fr (pX o s e) M1 A := by rw [hA]; exact (Fr.rf.up _ (by simp [pX] <;> omega)).up _ (by simp [pX] <;> omega)
      have A1 : ∀ k, gI A (o + 1) k = gI M1 (o + 1) k := fun k => by rw [hA, gI_ne _ _ _ _ (by omega), gI_ne _ _ _ _ (by omega)]
      have A4 : ∀ k, gI A (o + 4) k = gI M1 (o + 4) k := fun k => by rw [hA, gI_ne _ _ _ _ (by omega), gI_ne _ _ _ _ (by omega)]
      have A6 : ∀ k, gI A (o + 6) k = gI M1 (o + 6) k := fun k => by rw [hA, gI_ne _ _ _ _ (by omega), gI_ne _ _ _ _ (by omega)]
      have A5 : ∀ k, 0 ≤ k → gI A (o + 5) k = if k = n then s else gI M1 (o + 5) k := fun k k0 => by rw [hA, gI_ne _ _ _ _ (by omega), gI_up _ _ (by omega) k0]
      have A7 : ∀ k, 0 ≤ k → gI A (o + 7) k = if k = n then n else gI M1 (o + 7) k := fun k k0 => by rw [hA, gI_up _ _ (by omega) k0, gI_ne _ _ _ _ (by omega)]
      clear hA
      -- behind a node's rows
      have done : ∀ (B : pm_M), Fr (pX o s e) A B → (∀ k, gI B (o + 1) k = gI A (o + 1) k) → (∀ k, 0 ≤ k → gI B (o + 5) k = gI A (o + 5) k) → (∀ k, n < k → gI B (o + 7) k = gI A (o + 7) k) → gI B (o + 7) n = en → (∃ g, CXm o B g n en) → (∀ m, n < m → m ≤ e → ∀ f e', KXl l f m e' → e' ≤ e → ∃ g, CXm o B g m e') → k0_linkExpression_7 o s (n - 1) B K := by
        intro B fB B1 B5 B7 B7n hcx hold
        refine ih (n - 1) B (by omega) (by omega) ((f1.trans fA).trans fB) (fun m m0 m1 => ?_)
        by_cases em : m = n
        · subst em
          refine ⟨by rw [B5 _ (by omega), A5 _ (by omega), if_pos rfl], fun f2 e2 h2 he2 => ?_⟩
          have := hK.uniq h2
          subst this
          exact ⟨B7n, hcx⟩
        · obtain ⟨y1, y2⟩ := x1 m (by omega) m1
          refine ⟨by rw [B5 _ (by omega), A5 _ (by omega), if_neg em]; exact y1, fun f2 e2 h2 he2 => ⟨?_, hold m (by omega) m1 f2 e2 h2 he2⟩⟩
          rw [B7 _ (by omega), A7 _ (by omega), if_neg em]; exact (y2 f2 e2 h2 he2).1
      have old : ∀ (m : Int), n < m → m ≤ e → ∀ f2 e2, KXl l f2 m e2 → e2 ≤ e → gI M1 (o + 7) m = e2 ∧ ∃ g, CXm o M1 g m e2 := fun m m0 m1 f2 e2 h2 he2 => (x1 m m0 m1).2 f2 e2 h2 he2
      cases f' with
      | zero => exact hK.elim
      | succ f' =>
      have hK0 := hK
      rcases hK with ⟨q, qe⟩ | ⟨q, h1⟩ | ⟨q, m, h1, h2⟩
      · rw [if_neg (by omega), if_neg (by omega)]
        refine done A Fr.rf (fun _ => rfl) (fun _ _ => rfl) (fun _ _ => rfl) ?_ ⟨1, Or.inl ⟨?_, qe⟩⟩ (fun m m0 m1 f2 e2 h2 he2 => ?_)
        · rw [A7 _ (by omega), if_pos rfl]; exact qe.symm
        · rw [A1, kn]; exact q
        · obtain ⟨-, g3, h3⟩ := old m m0 m1 f2 e2 h2 he2
          exact ⟨g3, h3.same (fun k _ _ => ⟨A1 k, A6 k⟩) (fun k _ _ => A4 k)⟩
      · have hle1 := h1.le
        obtain ⟨b1, g1, b2⟩ := old (n + 1) (by omega) (by omega) f' en h1 hKe
        rw [if_pos q]
        apply k0_linkExpression_48_r ho
        rw [wn1, A1, kn, A7 _ (by omega), if_neg (by omega), b1, if_neg (by omega), wn]
        refine ⟨⟨by omega, by omega⟩, ⟨by omega, by omega⟩, ?_⟩
        obtain ⟨B, hB⟩ : ∃ B, B = upI (upI A (o + 4) (n + 1) n) (o + 7) n en := ⟨_, rfl⟩
        rw [← hB]
        have fB : Fr (pX o s e) A B := by rw [hB]; exact (Fr.rf.up _ (by simp [pX] <;> omega)).up _ (by simp [pX] <;> omega)
        have B1 : ∀ k, gI B (o + 1) k = gI A (o + 1) k := fun k => by rw [hB, gI_ne _ _ _ _ (by omega), gI_ne _ _ _ _ (by omega)]
        have B6 : ∀ k, gI B (o + 6) k = gI A (o + 6) k := fun k => by rw [hB, gI_ne _ _ _ _ (by omega), gI_ne _ _ _ _ (by omega)]
        have B4 : ∀ k, 0 ≤ k → gI B (o + 4) k = if k = n + 1 then n else gI A (o + 4) k := fun k k0 => by rw [hB, gI_ne _ _ _ _ (by omega), gI_up _ _ (by omega) k0]
        have B5 : ∀ k, 0 ≤ k → gI B (o + 5) k = gI A (o + 5) k := fun k _ => by rw [hB, gI_ne _ _ _ _ (by omega), gI_ne _ _ _ _ (by omega)]
        have B7 : ∀ k, 0 ≤ k → gI B (o + 7) k = if k = n then en else gI A (o + 7) k := fun k k0 => by rw [hB, gI_up _ _ (by omega) k0, gI_ne _ _ _ _ (by omega)]
        clear hB
        have hold : ∀ m, n < m → m ≤ e → ∀ f e', KXl l f m e' → e' ≤ e → ∃ g, CXm o B g m e' := fun m m0 m1 f2 e2 h2 he2 => by
          obtain ⟨-, g3, h3⟩ := old m m0 m1 f2 e2 h2 he2
          exact ⟨g3, h3.same (fun k _ _ => ⟨by rw [B1, A1], by rw [B6, A6]⟩) (fun k k0 _ => by rw [B4 _ (by omega), if_neg (by omega), A4])⟩
        obtain ⟨g4, h4⟩ := hold (n + 1) (by omega) (by omega) f' en h1 hKe
        refine done B fB B1 B5 (fun k k0 => by rw [B7 _ (by omega), if_neg (by omega)]) (by rw [B7 _ (by omega), if_pos rfl]) ⟨g4 + 1, Or.inr (Or.inl ⟨by rw [B1, A1, kn]; exact q, by rw [B4 _ (by omega), if_pos rfl], h4⟩)⟩ hold
      · have hle1 := h1.le
        have hle2 := h2.le
        obtain ⟨b1, g1, b2⟩ := old (n + 1) (by omega) (by omega) f' (m - 1) h1 (by omega)
        obtain ⟨b3, g2, b4⟩ := old m (by omega) (by omega) f' en h2 hKe
        rw [if_neg (by omega), if_pos q]
        apply k0_linkExpression_48_r ho
        have a7 : gI A (o + 7) (n + 1) = m - 1 := by rw [A7 _ (by omega), if_neg (by omega)]; exact b1
        have wm : w32 (m - 1 + 1) = m := by rw [w32_id (by omega)]; omega
        have e7 : ∀ k, 0 ≤ k → gI (upI (upI A (o + 4) (n + 1) n) (o + 7) n (m - 1)) (o + 7) k = if k = n then m - 1 else gI A (o + 7) k := fun k k0 => by rw [gI_up _ _ (by omega) k0, gI_ne _ _ _ _ (by omega)]
        have e7a : gI (upI (upI A (o + 4) (n + 1) n) (o + 7) n (m - 1)) (o + 7) (n + 1) = m - 1 := by rw [e7 _ (by omega), if_neg (by omega)]; exact a7
        have e7b : gI (upI (upI A (o + 4) (n + 1) n) (o + 7) n (m - 1)) (o + 7) m = en := by rw [e7 _ (by omega), if_neg (by omega), A7 _ (by omega), if_neg (by omega)]; exact b3
        rw [wn1, A1, kn, a7, if_pos q, e7a, wm, e7b, wn]
        refine ⟨⟨by omega, by omega⟩, ⟨by omega, by omega⟩, ⟨by omega, by omega⟩, ?_⟩
        obtain ⟨B, hB⟩ : ∃ B, B = upI (upI (upI (upI (upI A (o + 4) (n + 1) n) (o + 7) n (m - 1)) (o + 6) n m) (o + 4) m n) (o + 7) n en := ⟨_, rfl⟩
        rw [← hB]
        have fB : Fr (pX o s e) A B := by rw [hB]; exact ((((Fr.rf.up _ (by simp [pX] <;> omega)).up _ (by simp [pX] <;> omega)).up _ (by simp [pX] <;> omega)).up _ (by simp [pX] <;> omega)).up _ (by simp [pX] <;> omega)
        have B1 : ∀ k, gI B (o + 1) k = gI A (o + 1) k := fun k => by rw [hB, gI_ne _ _ _ _ (by omega), gI_ne _ _ _ _ (by omega), gI_ne _ _ _ _ (by omega), gI_ne _ _ _ _ (by omega), gI_ne _ _ _ _ (by omega)]
        have B5 : ∀ k, 0 ≤ k → gI B (o + 5) k = gI A (o + 5) k := fun k _ => by rw [hB, gI_ne _ _ _ _ (by omega), gI_ne _ _ _ _ (by omega), gI_ne _ _ _ _ (by omega), gI_ne _ _ _ _ (by omega), gI_ne _ _ _ _ (by omega)]
        have B6 : ∀ k, 0 ≤ k → gI B (o + 6) k = if k = n then m else gI A (o + 6) k := fun k k0 => by rw [hB, gI_ne _ _ _ _ (by omega), gI_ne _ _ _ _ (by omega), gI_up _ _ (by omega) k0, gI_ne _ _ _ _ (by omega), gI_ne _ _ _ _ (by omega)]
        have B4 : ∀ k, 0 ≤ k → gI B (o + 4) k = if k = m then n else if k = n + 1 then n else gI A (o + 4) k := fun k k0 => by rw [hB, gI_ne _ _ _ _ (by omega), gI_up _ _ (by omega) k0, gI_ne _ _ _ _ (by omega), gI_ne _ _ _ _ (by omega), gI_up _ _ (by omega) k0]
        have B7 : ∀ k, 0 ≤ k → gI B (o + 7) k = if k = n then en else gI A (o + 7) k := fun k k0 => by
          rw [hB, gI_up _ _ (by omega) k0]
          by_cases z : k = n
          · rw [if_pos z, if_pos z]
          · rw [if_neg z, if_neg z, gI_ne _ _ _ _ (by omega), gI_ne _ _ _ _ (by omega), e7 k k0, if_neg z]
        clear hB e7 e7a e7b
        have hold : ∀ m', n < m' → m' ≤ e → ∀ f e', KXl l f m' e' → e' ≤ e → ∃ g, CXm o B g m' e' := fun m' m0 m1 f2 e2 h3 he2 => by
          obtain ⟨-, g3, h4⟩ := old m' m0 m1 f2 e2 h3 he2
          have hb : ∀ k, m' < k → k ≤ e2 → k ≠ m := by
            intro k k0 k1 ke
            by_cases z : m' < m
            · obtain ⟨f5, e5, h5, h5'⟩ := h1.sub m' (by omega) (by omega)
              have := h3.uniq h5
              omega
            · omega
          exact ⟨g3, h4.same (fun k k0 _ => ⟨by rw [B1, A1], by rw [B6 _ (by omega), if_neg (by omega), A6]⟩) (fun k k0 k1 => by rw [B4 _ (by omega), if_neg (hb k k0 k1), if_neg (by omega), A4])⟩
        obtain ⟨g5, h5⟩ := hold (n + 1) (by omega) (by omega) f' (m - 1) h1 (by omega)
        obtain ⟨g6, h6⟩ := hold m (by omega) (by omega) f' en h2 hKe
        have b6 : gI B (o + 6) n = m := by rw [B6 _ (by omega), if_pos rfl]
        refine done B fB B1 B5 (fun k k0 => by rw [B7 _ (by omega), if_neg (by omega)]) (by rw [B7 _ (by omega), if_pos rfl]) ⟨max g5 g6 + 1, Or.inr (Or.inr ⟨by rw [B1, A1, kn]; exact q, ?_, ?_, ?_, ?_⟩)⟩ hold
        · rw [B4 _ (by omega)]; split
          · rfl
          · rw [if_pos rfl]
        · rw [b6, B4 _ (by omega), if_pos rfl]
        · rw [b6]; exact h5.mono (by omega)
        · rw [b6]; exact h6.mono (by omega)
  exact loop (e - s).toNat e M (by omega) (Int.le_refl _) Fr.rf (fun m m0 m1 => by omega)

/-! statements: what the list of them holds -/
def kdl (l : List (Int × Int)) (n : Int) : Int := (l.getD n.toNat (0, 0)).1
def KXl (l : List (Int × Int)) : Nat → Int → Int → Prop
  | 0, _, _ => False
  | f + 1, n, e => ((kdl l n = 4 ∨ kdl l n = 5) ∧ e = n) ∨ (kdl l n = 6 ∧ KXl l f (n + 1) e) ∨ (kdl l n = 7 ∧ ∃ m, KXl l f (n + 1) (m - 1) ∧ KXl l f m e)
theorem gdA {α : Type} {l m : List α} {i : Nat} {z : α} (h : i < l.length) : (l ++ m).getD i z = l.getD i z := by
  rw [List.getD_eq_getElem?_getD, List.getD_eq_getElem?_getD, List.getElem?_append_left h]
theorem gdB {α : Type} {l m : List α} {i : Nat} {z : α} (h : l.length ≤ i) : (l ++ m).getD i z = m.getD (i - l.length) z := by
  rw [List.getD_eq_getElem?_getD, List.getD_eq_getElem?_getD, List.getElem?_append_right h]
theorem gdM {α : Type} {l : List α} {i : Nat} {z : α} (h : i < l.length) : l.getD i z ∈ l := by
  rw [List.getD_eq_getElem?_getD, List.getElem?_eq_getElem h]
  exact List.getElem_mem h
theorem gdI {α : Type} {l : List α} {x : α} (z : α) (h : x ∈ l) : ∃ i, i < l.length ∧ l.getD i z = x := by
  obtain ⟨i, hi, e⟩ := List.mem_iff_getElem.mp h
  exact ⟨i, hi, by rw [List.getD_eq_getElem?_getD, List.getElem?_eq_getElem hi]; exact e⟩
theorem kdl_at {A B : List (Int × Int)} {x : Int × Int} : kdl (A ++ x :: B) (A.length : Int) = x.1 := by
  unfold kdl
  rw [Int.toNat_natCast, gdB (Nat.le_refl _), Nat.sub_self]; rfl
theorem kdl_app {l m : List (Int × Int)} {n : Int} (h0 : 0 ≤ n) (h : n < (l.length : Int)) : kdl (l ++ m) n = kdl l n := by
  unfold kdl
  rw [gdA (by omega)]
theorem KXl.le {l : List (Int × Int)} : ∀ {f : Nat} {n e : Int}, KXl l f n e → n ≤ e := by
  intro f
  induction f with
  | zero => intro n e h; exact h.elim
  | succ f ih =>
    intro n e h
    rcases h with ⟨-, h⟩ | ⟨-, h⟩ | ⟨-, m, h1, h2⟩
    · omega
    · have := ih h; omega
    · have := ih h1; have := ih h2; omega
theorem KXl.same {l l' : List (Int × Int)} : ∀ {f : Nat} {n e : Int}, KXl l f n e → (∀ k, n ≤ k → k ≤ e → kdl l' k = kdl l k) → KXl l' f n e := by
  intro f
  induction f with
  | zero => intro n e h; exact h.elim
  | succ f ih =>
    intro n e h hk
    have hn := hk n (Int.le_refl _) h.le
    rcases h with ⟨a, h⟩ | ⟨a, h⟩ | ⟨a, m, h1, h2⟩
    · exact Or.inl ⟨by rw [hn]; exact a, h⟩
    · exact Or.inr (Or.inl ⟨by rw [hn]; exact a, ih h (fun k k0 k1 => hk k (by omega) k1)⟩)
    · have := h1.le
      have := h2.le
      exact Or.inr (Or.inr ⟨by rw [hn]; exact a, m, ih h1 (fun k k0 k1 => hk k (by omega) (by omega)), ih h2 (fun k k0 k1 => hk k (by omega) k1)⟩)
theorem KXl.mono {l : List (Int × Int)} : ∀ {f g : Nat} {n e : Int}, KXl l f n e → f ≤ g → KXl l g n e := by
  intro f
  induction f with
  | zero => intro g n e h; exact h.elim
  | succ f ih =>
    intro g n e h hg
    obtain ⟨g, rfl⟩ : ∃ k, g = k + 1 := ⟨g - 1, by omega⟩
    rcases h with h | ⟨a, h⟩ | ⟨a, m, h1, h2⟩
    · exact Or.inl h
    · exact Or.inr (Or.inl ⟨a, ih h (by omega)⟩)
    · exact Or.inr (Or.inr ⟨a, m, ih h1 (by omega), ih h2 (by omega)⟩)
/-- its nodes are none of statements -/
theorem KXl.kd {l : List (Int × Int)} : ∀ {f : Nat} {n e : Int}, KXl l f n e → ∀ k, n ≤ k → k ≤ e → 4 ≤ kdl l k ∧ kdl l k ≤ 7 := by
  intro f
  induction f with
  | zero => intro n e h; exact h.elim
  | succ f ih =>
    intro n e h k k0 k1
    by_cases hk : k = n
    · subst hk
      rcases h with ⟨a, -⟩ | ⟨a, -⟩ | ⟨a, -⟩ <;> omega
    · rcases h with ⟨-, h⟩ | ⟨-, h⟩ | ⟨-, m, h1, h2⟩
      · omega
      · exact ih h k (by omega) k1
      · by_cases hm : k < m
        · exact ih h1 k (by omega) (by omega)
        · exact ih h2 k (by omega) k1
/-- where it ends is told by the kinds alone -/
theorem KXl.uniq {l : List (Int × Int)} : ∀ {f g : Nat} {n e e' : Int}, KXl l f n e → KXl l g n e' → e = e' := by
  intro f
  induction f with
  | zero => intro g n e e' h; exact h.elim
  | succ f ih =>
    intro g n e e' h h'
    cases g with
    | zero => exact h'.elim
    | succ g =>
      rcases h with ⟨a, h⟩ | ⟨a, h⟩ | ⟨a, m, h1, h2⟩
      · rcases h' with ⟨-, h'⟩ | ⟨a', -⟩ | ⟨a', -⟩
        · omega
        · omega
        · omega
      · rcases h' with ⟨a', -⟩ | ⟨-, h'⟩ | ⟨a', -⟩
        · omega
        · exact ih h h'
        · omega
      · rcases h' with ⟨a', -⟩ | ⟨a', -⟩ | ⟨-, m', h1', h2'⟩
        · omega
        · omega
        · have e1 := ih h1 h1'
          have e2 : m = m' := by omega
          subst e2
          exact ih h2 h2'
theorem EXl.kx : ∀ {g : Nat} {X A B : List (Int × Int)}, EXl g X → KXl (A ++ (X ++ B)) g (A.length : Int) ((A.length : Int) + (X.length : Int) - 1) := by
  intro g
  induction g with
  | zero => intro X A B h; exact h.elim
  | succ g ih =>
    intro X A B h
    rcases h with ⟨v, rfl, -⟩ | ⟨v, rfl, -⟩ | ⟨Y, rfl, h⟩ | ⟨v, Y, Z, rfl, -, h1, h2⟩
    · exact Or.inl ⟨Or.inl kdl_at, by simp only [List.length_singleton]; omega⟩
    · exact Or.inl ⟨Or.inr kdl_at, by simp only [List.length_singleton]; omega⟩
    · refine Or.inr (Or.inl ⟨kdl_at, ?_⟩)
      have h3 := ih (A := A ++ [((6, 0) : Int × Int)]) (B := B) h
      rw [List.append_assoc] at h3
      have l1 : ((A ++ [((6, 0) : Int × Int)]).length : Int) = (A.length : Int) + 1 := by rw [List.length_append]; rfl
      rw [l1] at h3
      rw [show (A.length : Int) + ((((6, 0) : Int × Int) :: Y).length : Int) - 1 = (A.length : Int) + 1 + (Y.length : Int) - 1 by rw [List.length_cons]; omega]
      exact h3
    · have l1 : ((A ++ [((7, v) : Int × Int)]).length : Int) = (A.length : Int) + 1 := by rw [List.length_append]; rfl
      have l2 : ((A ++ ((7, v) : Int × Int) :: Y).length : Int) = (A.length : Int) + 1 + (Y.length : Int) := by rw [List.length_append, List.length_cons]; omega
      refine Or.inr (Or.inr ⟨kdl_at, (A.length : Int) + 1 + (Y.length : Int), ?_, ?_⟩)
      · have h3 := ih (A := A ++ [((7, v) : Int × Int)]) (B := Z ++ B) h1
        rw [List.append_assoc, l1] at h3
        have e : A ++ (((7, v) : Int × Int) :: (Y ++ Z) ++ B) = A ++ ([((7, v) : Int × Int)] ++ (Y ++ (Z ++ B))) := by rw [List.cons_append, List.append_assoc]; rfl
        rw [e]; exact h3
      · have h3 := ih (A := A ++ ((7, v) : Int × Int) :: Y) (B := B) h2
        rw [List.append_assoc, l2] at h3
        have e : A ++ (((7, v) : Int × Int) :: (Y ++ Z) ++ B) = A ++ (((7, v) : Int × Int) :: Y ++ (Z ++ B)) := by rw [List.cons_append, List.append_assoc]; rfl
        rw [e, show (A.length : Int) + ((((7, v) : Int × Int) :: (Y ++ Z)).length : Int) - 1 = (A.length : Int) + 1 + (Y.length : Int) + (Z.length : Int) - 1 by rw [List.length_cons, List.length_append]; omega]
        exact h3
def zS : Stm := (0, 0, 0, 0)
/-- the statements read so far, and their nodes -/
def WLs (n : List (Int × Int)) (l : List Stm) : Prop :=
  (l.length ≤ 20 ∧ (l.length = 0 → n.length = 0) ∧ (0 < l.length → (l.getD 0 zS).1 = 0)) ∧ (∀ x ∈ n, vld x) ∧
  (∀ i : Nat, i < l.length → (l.getD i zS).2.2.2 + 1 = (if i + 1 < l.length then (l.getD (i + 1) zS).1 else (n.length : Int))) ∧
  (∀ t ∈ l, (0 ≤ t.1 ∧ t.1 < t.2.2.2 ∧ t.2.2.2 < (n.length : Int)) ∧ (0 ≤ kdl n t.1 ∧ kdl n t.1 ≤ 3) ∧ (∃ g, KXl n g (t.1 + 1) t.2.2.2) ∧ ((t.2.1 = -1 ∧ t.2.2.1 = 0) ∨ (∃ s ∈ l, s.1 = t.2.1 ∧ s.1 < t.1 ∧ (t.2.2.1 = 0 ∨ (t.2.2.1 = 1 ∧ kdl n s.1 = 1))))) ∧
  (∀ s ∈ l, ∀ t ∈ l, s.2.1 < t.1 → t.1 < s.1 → s.2.1 ≤ t.2.1)
def Opn (l : List Stm) (p : Int) : Prop := ∀ t ∈ l, p < t.1 → p ≤ t.2.1
def PrO (n : List (Int × Int)) (l : List Stm) (par br : Int) : Prop := (par = -1 ∧ br = 0) ∨ (∃ s ∈ l, s.1 = par ∧ (br = 0 ∨ (br = 1 ∧ kdl n s.1 = 1)))
theorem WLs.nil : WLs [] [] := ⟨⟨by decide, fun _ => rfl, fun z => absurd z (by decide)⟩, fun x hx => by simp at hx, fun i hi => absurd hi (Nat.not_lt_zero _), fun t ht => by simp at ht, fun s hs => by simp at hs⟩
theorem PrO.lt {n : List (Int × Int)} {l : List Stm} {par br : Int} (h : WLs n l) (hp : PrO n l par br) : -1 ≤ par ∧ par < (n.length : Int) := by
  rcases hp with ⟨h1, -⟩ | ⟨s, hs, h1, -⟩
  · omega
  · have := (h.2.2.2.1 s hs).1; omega
theorem PrO.ext {n X : List (Int × Int)} {l D : List Stm} {par br : Int} (h : WLs n l) (hp : PrO n l par br) : PrO (n ++ X) (l ++ D) par br := by
  rcases hp with h1 | ⟨s, hs, h1, h2⟩
  · exact Or.inl h1
  · have hb := (h.2.2.2.1 s hs).1
    refine Or.inr ⟨s, List.mem_append_left _ hs, h1, ?_⟩
    rw [kdl_app hb.1 (by omega)]; exact h2
/-- a statement's head and expression more -/
theorem WLs.add {n E : List (Int × Int)} {l : List Stm} {g : Nat} {kd v par br : Int} (h : WLs n l) (h20 : l.length < 20) (hE : EXl g E) (hk : 0 ≤ kd ∧ kd ≤ 3) (hv : kd = 0 → 0 ≤ v ∧ v < 9) (ho : Opn l par) (hp : PrO n l par br) : WLs (n ++ (kd, v) :: E) (l ++ [((n.length : Int), par, br, (n.length : Int) + (E.length : Int))]) := by
  have hlt := PrO.lt h hp
  obtain ⟨⟨a1, a2, a3⟩, b, c, d, e⟩ := h
  obtain ⟨E0, E1⟩ := hE.vld'
  have len : ((n ++ (kd, v) :: E).length : Int) = (n.length : Int) + 1 + (E.length : Int) := by rw [List.length_append, List.length_cons]; omega
  have ll : (l ++ [((n.length : Int), par, br, (n.length : Int) + (E.length : Int))]).length = l.length + 1 := by rw [List.length_append]; rfl
  have hnew : (l ++ [((n.length : Int), par, br, (n.length : Int) + (E.length : Int))]).getD l.length zS = ((n.length : Int), par, br, (n.length : Int) + (E.length : Int)) := by rw [gdB (Nat.le_refl _), Nat.sub_self]; rfl
  refine ⟨⟨by omega, fun z => by omega, fun _ => ?_⟩, ?_, ?_, ?_, ?_⟩
  · by_cases z : l.length = 0
    · rw [← z, hnew]; have := a2 z; simp only []; omega
    · rw [gdA (by omega)]; exact a3 (by omega)
  · intro x hx
    rcases List.mem_append.mp hx with hx | hx
    · exact b x hx
    · rcases List.mem_cons.mp hx with hx | hx
      · subst hx; unfold vld; simp only []; omega
      · exact (E1 x hx).1
  · intro i hi
    rw [ll] at hi ⊢
    rw [len]
    by_cases q : i < l.length
    · rw [gdA q, c i q]
      by_cases r : i + 1 < l.length
      · rw [if_pos r, if_pos (by omega), gdA r]
      · have r' : i + 1 = l.length := by omega
        rw [if_neg r, if_pos (by omega), r', hnew]
    · have q' : i = l.length := by omega
      rw [q', hnew, if_neg (by omega)]
      simp only []; omega
  · intro t ht
    rcases List.mem_append.mp ht with ht | ht
    · obtain ⟨p1, p2, ⟨g', p3⟩, p4⟩ := d t ht
      refine ⟨⟨p1.1, p1.2.1, by omega⟩, by rw [kdl_app p1.1 (by omega)]; exact p2, ⟨g', p3.same (fun k k0 k1 => kdl_app (by omega) (by omega))⟩, ?_⟩
      rcases p4 with p4 | ⟨s, s1, s2, s3, s4⟩
      · exact Or.inl p4
      · have hb := (d s s1).1
        refine Or.inr ⟨s, List.mem_append_left _ s1, s2, s3, ?_⟩
        rw [kdl_app hb.1 (by omega)]; exact s4
    · rw [List.mem_singleton] at ht
      subst ht
      simp only []
      refine ⟨⟨by omega, by omega, by omega⟩, ?_, ⟨g, ?_⟩, ?_⟩
      · rw [kdl_at]; exact hk
      · have h3 := hE.kx (A := n ++ [(kd, v)]) (B := [])
        rw [List.append_assoc, List.append_nil] at h3
        have l1 : ((n ++ [(kd, v)]).length : Int) = (n.length : Int) + 1 := by rw [List.length_append]; rfl
        rw [l1, show (n.length : Int) + 1 + (E.length : Int) - 1 = (n.length : Int) + (E.length : Int) by omega] at h3
        exact h3
      · rcases hp with ⟨p1, p2⟩ | ⟨s, s1, s2, s3⟩
        · exact Or.inl ⟨p1, p2⟩
        · have hb := (d s s1).1
          refine Or.inr ⟨s, List.mem_append_left _ s1, s2, by omega, ?_⟩
          rw [kdl_app hb.1 (by omega)]; exact s3
  · intro s hs t ht p q
    rcases List.mem_append.mp hs with hs | hs
    · rcases List.mem_append.mp ht with ht | ht
      · exact e s hs t ht p q
      · rw [List.mem_singleton] at ht
        subst ht
        have := (d s hs).1
        simp only [] at p q ⊢; omega
    · rw [List.mem_singleton] at hs
      subst hs
      simp only [] at p q ⊢
      rcases List.mem_append.mp ht with ht | ht
      · exact ho t ht p
      · rw [List.mem_singleton] at ht
        subst ht
        simp only [] at q; omega
/-- they stand in their order -/
theorem WLs.srt {n : List (Int × Int)} {l : List Stm} (h : WLs n l) : ∀ (j i : Nat), j < l.length → i < j → (l.getD i zS).1 < (l.getD j zS).1 := by
  intro j
  induction j with
  | zero => intro i _ hi; omega
  | succ j ih =>
    intro i hj hi
    have c := h.2.2.1 j (by omega)
    rw [if_pos hj] at c
    have d := (h.2.2.2.1 _ (gdM (z := zS) (show j < l.length by omega))).1
    by_cases e : i = j
    · subst e; omega
    · have := ih i (by omega) (by omega); omega
theorem WLs.inj {n : List (Int × Int)} {l : List Stm} (h : WLs n l) {s t : Stm} (hs : s ∈ l) (ht : t ∈ l) (e : s.1 = t.1) : s = t := by
  obtain ⟨i, hi, ei⟩ := gdI zS hs
  obtain ⟨j, hj, ej⟩ := gdI zS ht
  by_cases a : i < j
  · have := h.srt j i hj a; rw [ei, ej] at this; omega
  by_cases b : j < i
  · have := h.srt i j hi b; rw [ei, ej] at this; omega
  have : i = j := by omega
  subst this
  rw [← ei, ← ej]

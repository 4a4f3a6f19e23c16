/-! the rows that were read and linked are a program -/
def SrL : List Stm → Prop
  | [] => True
  | t :: l => (∀ t' ∈ l, t.1 < t'.1) ∧ SrL l
theorem SrL.of : ∀ {l : List Stm}, (∀ (j i : Nat), j < l.length → i < j → (l.getD i zS).1 < (l.getD j zS).1) → SrL l := by
  intro l
  induction l with
  | nil => intro _; exact trivial
  | cons t l ih =>
    intro h
    refine ⟨fun t' ht' => ?_, ih (fun j i hj hi => ?_)⟩
    · obtain ⟨j, hj, e⟩ := gdI zS ht'
      have := h (j + 1) 0 (by rw [List.length_cons]; omega) (by omega)
      rw [← e]; exact this
    · exact h (j + 1) (i + 1) (by rw [List.length_cons]; omega) (by omega)
/-- the first in a block from a place on -/
def FiS (l : List Stm) (p b fr v : Int) : Prop := (v = -1 ∧ ∀ t ∈ l, ¬ (fr ≤ t.1 ∧ t.2.1 = p ∧ t.2.2.1 = b)) ∨ (∃ t ∈ l, t.1 = v ∧ fr ≤ t.1 ∧ t.2.1 = p ∧ t.2.2.1 = b ∧ ∀ t' ∈ l, fr ≤ t'.1 → t'.2.1 = p → t'.2.2.1 = b → t.1 ≤ t'.1)
theorem fif_spec : ∀ {l : List Stm} {p b fr : Int}, SrL l → FiS l p b fr (fif l p b fr) := by
  intro l
  induction l with
  | nil => intro p b fr _; exact Or.inl ⟨rfl, fun t ht => absurd ht (by simp)⟩
  | cons t l ih =>
    intro p b fr hs
    show FiS (t :: l) p b fr (if fr ≤ t.1 ∧ t.2.1 = p ∧ t.2.2.1 = b then t.1 else fif l p b fr)
    by_cases c : fr ≤ t.1 ∧ t.2.1 = p ∧ t.2.2.1 = b
    · rw [if_pos c]
      refine Or.inr ⟨t, List.mem_cons_self, rfl, c.1, c.2.1, c.2.2, fun t' ht' _ _ _ => ?_⟩
      rcases List.mem_cons.mp ht' with e | e
      · rw [e]; exact Int.le_refl _
      · have := hs.1 t' e; omega
    · rw [if_neg c]
      rcases ih (p := p) (b := b) (fr := fr) hs.2 with ⟨h1, h2⟩ | ⟨s, s1, s2, s3, s4, s5, s6⟩
      · refine Or.inl ⟨h1, fun t' ht' => ?_⟩
        rcases List.mem_cons.mp ht' with e | e
        · rw [e]; exact c
        · exact h2 t' e
      · refine Or.inr ⟨s, List.mem_cons_of_mem _ s1, s2, s3, s4, s5, fun t' ht' q1 q2 q3 => ?_⟩
        rcases List.mem_cons.mp ht' with e | e
        · rw [e] at q1 q2 q3; exact absurd ⟨q1, q2, q3⟩ c
        · exact s6 t' e q1 q2 q3
theorem FiS.uniq {l : List Stm} {p b fr v v' : Int} (h : FiS l p b fr v) (h' : FiS l p b fr v') : v = v' := by
  rcases h with ⟨h1, h2⟩ | ⟨s, s1, s2, s3, s4, s5, s6⟩
  · rcases h' with ⟨h1', -⟩ | ⟨s', s1', s2', s3', s4', s5', -⟩
    · rw [h1, h1']
    · exact absurd ⟨s3', s4', s5'⟩ (h2 s' s1')
  · rcases h' with ⟨-, h2'⟩ | ⟨s', s1', s2', s3', s4', s5', s6'⟩
    · exact absurd ⟨s3, s4, s5⟩ (h2' s s1)
    · have := s6 s' s1' s3' s4' s5'
      have := s6' s s1 s3 s4 s5
      omega
def rnk : List Stm → Int → Int
  | [], _ => 0
  | t :: l, s => if t.1 < s then 1 + rnk l s else 0
theorem rnk_at : ∀ {l : List Stm}, SrL l → ∀ j : Nat, j < l.length → rnk l (l.getD j zS).1 = (j : Int) := by
  intro l
  induction l with
  | nil => intro _ j hj; exact absurd hj (Nat.not_lt_zero _)
  | cons t l ih =>
    intro hs j hj
    cases j with
    | zero =>
      show (if t.1 < t.1 then 1 + rnk l t.1 else 0) = 0
      rw [if_neg (by omega)]
    | succ j =>
      rw [List.length_cons] at hj
      have hm := gdM (z := zS) (show j < l.length by omega)
      show (if t.1 < (l.getD j zS).1 then 1 + rnk l (l.getD j zS).1 else 0) = _
      rw [if_pos (hs.1 _ hm), ih hs.2 j (by omega)]
      omega
def enf : List Stm → Int → Int → Int
  | [], n, _ => n
  | t :: l, n, s => if s < t.1 ∧ t.2.1 < s then t.1 else enf l n s
theorem enf_spec : ∀ {l : List Stm} {n s : Int}, SrL l → (enf l n s = n ∧ ∀ t ∈ l, ¬ (s < t.1 ∧ t.2.1 < s)) ∨ (∃ t ∈ l, enf l n s = t.1 ∧ s < t.1 ∧ t.2.1 < s ∧ ∀ t' ∈ l, s < t'.1 → t'.2.1 < s → t.1 ≤ t'.1) := by
  intro l
  induction l with
  | nil => intro n s _; exact Or.inl ⟨rfl, fun t ht => absurd ht (by simp)⟩
  | cons t l ih =>
    intro n s hs
    show ((if s < t.1 ∧ t.2.1 < s then t.1 else enf l n s) = n ∧ _) ∨ (∃ t' ∈ t :: l, (if s < t.1 ∧ t.2.1 < s then t.1 else enf l n s) = t'.1 ∧ _)
    by_cases c : s < t.1 ∧ t.2.1 < s
    · rw [if_pos c]
      refine Or.inr ⟨t, List.mem_cons_self, rfl, c.1, c.2, fun t' ht' _ _ => ?_⟩
      rcases List.mem_cons.mp ht' with e | e
      · rw [e]; exact Int.le_refl _
      · have := hs.1 t' e; omega
    · rw [if_neg c]
      rcases ih (n := n) (s := s) hs.2 with ⟨h1, h2⟩ | ⟨q, s1, s2, s3, s4, s5⟩
      · refine Or.inl ⟨h1, fun t' ht' => ?_⟩
        rcases List.mem_cons.mp ht' with e | e
        · rw [e]; exact c
        · exact h2 t' e
      · refine Or.inr ⟨q, List.mem_cons_of_mem _ s1, s2, s3, s4, fun t' ht' q1 q2 => ?_⟩
        rcases List.mem_cons.mp ht' with e | e
        · rw [e] at q1 q2; exact absurd ⟨q1, q2⟩ c
        · exact s5 t' e q1 q2
/-- each node is of one statement -/
theorem WLs.cover {n : List (Int × Int)} {l : List Stm} (h : WLs n l) {k : Int} (k0 : 0 ≤ k) (k1 : k < (n.length : Int)) : ∃ t ∈ l, t.1 ≤ k ∧ k ≤ t.2.2.2 := by
  have step : ∀ i : Nat, i < l.length → k ≤ (l.getD i zS).2.2.2 → ∃ t ∈ l, t.1 ≤ k ∧ k ≤ t.2.2.2 := by
    intro i
    induction i with
    | zero =>
      intro hi hk
      exact ⟨_, gdM (z := zS) hi, by rw [h.1.2.2 hi]; exact k0, hk⟩
    | succ i ih =>
      intro hi hk
      have c := h.2.2.1 i (by omega)
      rw [if_pos hi] at c
      by_cases q : k ≤ (l.getD i zS).2.2.2
      · exact ih (by omega) q
      · exact ⟨_, gdM (z := zS) hi, by omega, hk⟩
  have hl : 0 < l.length := by
    have := h.1.2.1
    omega
  have c := h.2.2.1 (l.length - 1) (by omega)
  rw [if_neg (by omega)] at c
  exact step (l.length - 1) (by omega) (by omega)
theorem CXm.par {o : Nat} {M : pm_M} : ∀ {f : Nat} {n e : Int}, CXm o M f n e → ∀ k, n < k → k ≤ e → n ≤ gI M (o + 4) k ∧ gI M (o + 4) k < k := by
  intro f
  induction f with
  | zero => intro n e h; exact h.elim
  | succ f ih =>
    intro n e h k k0 k1
    rcases h with ⟨-, h⟩ | ⟨-, b, h⟩ | ⟨-, b, c, h1, h2⟩
    · omega
    · by_cases q : k = n + 1
      · rw [q, b]; omega
      · have := ih h k (by omega) k1; omega
    · have hle := h1.le
      by_cases q : k = n + 1
      · rw [q, b]; omega
      by_cases q2 : k = gI M (o + 6) n
      · rw [q2, c]; omega
      by_cases q3 : k < gI M (o + 6) n
      · have := ih h1 k (by omega) (by omega); omega
      · have := ih h2 k (by omega) k1; omega
def mkP (M : pm_M) (l : List Stm) : Pg := fun a i => if a < 18 then gI M a i else if a = 20 then fif l (gI M 6 i) (gI M 13 i) (i + 1) else if a = 21 then fif l i 0 (i + 1) else if a = 22 then fif l i 1 (i + 1) else if a = 23 then rnk l i else if a = 24 then enf l (gI M 2 15) i else 0
theorem mkP_lt {M : pm_M} {l : List Stm} {a : Nat} (h : a < 18) : mkP M l a = gI M a := by funext i; exact if_pos h
theorem CXm.ex {M : pm_M} {l : List Stm} : ∀ {f : Nat} {n e : Int}, CXm 2 M f n e → Ex (mkP M l) f n e := by
  intro f
  induction f with
  | zero => intro n e h; exact h.elim
  | succ f ih =>
    intro n e h
    show ((mkP M l) 3 n = 4 ∧ e = n) ∨ ((mkP M l) 3 n = 5 ∧ e = n) ∨ ((mkP M l) 3 n = 6 ∧ Ex (mkP M l) f (n + 1) e) ∨ ((mkP M l) 3 n = 7 ∧ Ex (mkP M l) f (n + 1) ((mkP M l) 8 n - 1) ∧ Ex (mkP M l) f ((mkP M l) 8 n) e)
    rw [mkP_lt (show 3 < 18 by decide), mkP_lt (show 8 < 18 by decide)]
    rcases h with ⟨a | a, h⟩ | ⟨a, -, h⟩ | ⟨a, -, -, h1, h2⟩
    · exact Or.inl ⟨a, h⟩
    · exact Or.inr (Or.inl ⟨a, h⟩)
    · exact Or.inr (Or.inr (Or.inl ⟨a, ih h⟩))
    · exact Or.inr (Or.inr (Or.inr ⟨a, ih h1, ih h2⟩))

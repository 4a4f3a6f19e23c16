-- needs 30 31 32 33a 33b 33c 33d 33e 33f 33g 33h 33i 33j 40 41 42 43 44 45 46 50 51 52
/-! frames by places; how many changes a node has, what they make -/
def Fr (p : Nat → Nat → Bool) (M M' : pm_M) : Prop := ∀ a i, p a i = false → M' a i = M a i
theorem Fr.rf {p : Nat → Nat → Bool} {M : pm_M} : Fr p M M := fun _ _ _ => rfl
theorem Fr.trans {p : Nat → Nat → Bool} {M M' M'' : pm_M} (h : Fr p M M') (h' : Fr p M' M'') : Fr p M M'' := fun a i z => (h' a i z).trans (h a i z)
theorem Fr.mono {p q : Nat → Nat → Bool} {M M' : pm_M} (h : Fr p M M') (hp : ∀ a i, p a i = true → q a i = true) : Fr q M M' := fun a i z => h a i (by
  cases e : p a i with
  | false => rfl
  | true => rw [hp a i e] at z; exact z)
theorem Fr.up {p : Nat → Nat → Bool} {M M' : pm_M} (h : Fr p M M') {a : Nat} {i : Int} (v : Int) (ha : p a i.toNat = true) : Fr p M (upI M' a i v) := fun b j z => by
  show (if b = a ∧ j = i.toNat then v else M' b j) = M b j
  rw [if_neg (fun y => by rw [y.1, y.2, ha] at z; exact absurd z (by decide))]
  exact h b j z
theorem Fr.g {p : Nat → Nat → Bool} {M M' : pm_M} (h : Fr p M M') {a : Nat} {i : Int} (hp : p a i.toNat = false) : gI M' a i = gI M a i := h a i.toNat hp
theorem Fr.c {p : Nat → Nat → Bool} {M M' : pm_M} (h : Fr p M M') {a : Nat} (hp : ∀ i, p a i = false) : gI M' a = gI M a := by funext i; exact h a i.toNat (hp _)
theorem Fr.sm {p : Nat → Nat → Bool} {P : Pg} {M M' : pm_M} (h : Fr p M M') (hS : Sm P M) (hp : ∀ a i, 2 ≤ a → a < 18 → p a i = false) : Sm P M' := fun a h1 h2 => by
  rw [h.c (fun i => hp a i h1 h2)]; exact hS a h1 h2
theorem Fr.rp {p : Nat → Nat → Bool} {P : Pg} {M M' : pm_M} (h : Fr p M M') (hR : RP P M) (hp : ∀ a i, 144 ≤ a → a < 154 → p a i = false) : RP P M' := by
  have g : ∀ a, 144 ≤ a → a < 154 → gI M' a = gI M a := fun a h1 h2 => h.c (fun i => hp a i h1 h2)
  unfold RP
  rw [g 144 (by decide) (by decide), g 145 (by decide) (by decide), g 146 (by decide) (by decide), g 147 (by decide) (by decide), g 148 (by decide) (by decide), g 149 (by decide) (by decide), g 150 (by decide) (by decide), g 151 (by decide) (by decide), g 152 (by decide) (by decide), g 153 (by decide) (by decide)]
  exact hR
/-- what a run writes: the class's, the reference's -/
def pRun (a i : Nat) : Bool := a == 74 || a == 75 || a == 76 || (a == 73 && !(i == 10 || i == 11 || i == 12 || i == 13))
def pTry (a i : Nat) : Bool := a == 74 || a == 75 || a == 76 || (a == 73 && !(i == 10 || i == 11 || i == 12))
def qRun (a i : Nat) : Bool := a == 156 || a == 157 || a == 158 || (a == 142 && (i == 28 || i == 29 || i == 30 || i == 31 || i == 34))
def qAsk (a i : Nat) : Bool := a == 142 && (i == 45 || i == 46)
theorem Rg.fr {M M' : pm_M} (h : Rg M M') : Fr pTry M M' := fun a i z => by
  obtain ⟨h0, h1, h2, h3⟩ := h
  simp only [pTry, Bool.or_eq_false_iff, Bool.and_eq_false_iff, Bool.not_eq_false', Bool.or_eq_true, beq_eq_false_iff_ne, beq_iff_eq] at z
  by_cases e : a = 73
  · subst e
    rcases z.2 with y | y
    · exact absurd rfl y
    · rcases y with (y | y) | y
      · subst y; exact h1
      · subst y; exact h2
      · subst y; exact h3
  · rw [h0 a (by simp; omega)]
theorem Rf.fr {M M' : pm_M} (h : Rf M M') : Fr pRun M M' := fun a i z => by
  obtain ⟨h0, h1, h2, h3, h4⟩ := h
  simp only [pRun, Bool.or_eq_false_iff, Bool.and_eq_false_iff, Bool.not_eq_false', Bool.or_eq_true, beq_eq_false_iff_ne, beq_iff_eq] at z
  by_cases e : a = 73
  · subst e
    rcases z.2 with y | y
    · exact absurd rfl y
    · rcases y with ((y | y) | y) | y
      · subst y; exact h1
      · subst y; exact h2
      · subst y; exact h3
      · subst y; exact h4
  · rw [h0 a (by simp; omega)]
theorem Qf.fr {M M' : pm_M} (h : Qf M M') : Fr qRun M M' := fun a i z => by
  obtain ⟨h0, h1⟩ := h
  simp only [qRun, Bool.or_eq_false_iff, Bool.and_eq_false_iff, beq_eq_false_iff_ne] at z
  by_cases e : a = 142
  · subst e
    have := h1 (i : Int) (Int.natCast_nonneg _) (by omega) (by omega) (by omega) (by omega) (by omega)
    exact this
  · rw [h0 a (by simp; omega)]
/-- the k-th of those that are so -/
def ot (f : Int → Bool) : Nat → Int → Int → Option Int
  | 0, _, _ => none
  | n + 1, v, k => if f v = true then (if k = 0 then some v else ot f n (v + 1) (k - 1)) else ot f n (v + 1) k
def oc (f : Int → Bool) : Nat → Int → Int
  | 0, _ => 0
  | n + 1, v => (if f v = true then 1 else 0) + oc f n (v + 1)
theorem oc_nn (f : Int → Bool) : ∀ (n : Nat) (v : Int), 0 ≤ oc f n v ∧ oc f n v ≤ n := by
  intro n
  induction n with
  | zero => intro v; exact ⟨Int.le_refl _, Int.le_refl _⟩
  | succ n ih =>
    intro v
    have := ih (v + 1)
    show 0 ≤ (if f v = true then 1 else 0) + oc f n (v + 1) ∧ (if f v = true then 1 else 0) + oc f n (v + 1) ≤ ((n + 1 : Nat) : Int)
    split <;> omega
theorem ot_none {f : Int → Bool} : ∀ (n : Nat) (v k : Int), 0 ≤ k → (ot f n v k = none ↔ oc f n v ≤ k) := by
  intro n
  induction n with
  | zero => intro v k hk; exact ⟨fun _ => hk, fun _ => rfl⟩
  | succ n ih =>
    intro v k hk
    show (if f v = true then (if k = 0 then some v else ot f n (v + 1) (k - 1)) else ot f n (v + 1) k) = none ↔ (if f v = true then 1 else 0) + oc f n (v + 1) ≤ k
    have hnn := oc_nn f n (v + 1)
    by_cases hf : f v = true
    · rw [if_pos hf, if_pos hf]
      by_cases h0 : k = 0
      · rw [if_pos h0]
        exact ⟨fun h => absurd h (by simp), fun h => by omega⟩
      · rw [if_neg h0, ih _ _ (by omega)]; omega
    · rw [if_neg hf, if_neg hf, ih _ _ hk]; omega
theorem ot_some {f : Int → Bool} : ∀ (n : Nat) (v k w : Int), ot f n v k = some w → f w = true ∧ v ≤ w ∧ w < v + n := by
  intro n
  induction n with
  | zero => intro v k w h; exact absurd h (by simp [ot])
  | succ n ih =>
    intro v k w h
    have h' : (if f v = true then (if k = 0 then some v else ot f n (v + 1) (k - 1)) else ot f n (v + 1) k) = some w := h
    by_cases hf : f v = true
    · rw [if_pos hf] at h'
      by_cases h0 : k = 0
      · rw [if_pos h0] at h'
        have : v = w := by simpa using h'
        subst this
        exact ⟨hf, by omega, by omega⟩
      · rw [if_neg h0] at h'
        have := ih _ _ _ h'
        exact ⟨this.1, by omega, by omega⟩
    · rw [if_neg hf] at h'
      have := ih _ _ _ h'
      exact ⟨this.1, by omega, by omega⟩
def bi (set v : Int) : Bool := decide (pm_iand (pm_ishr set v) 1 = 1)
def isV (set but v : Int) : Bool := !decide (v = but) && bi set v
def pc (set : Int) : Int := oc (bi set) 9 0
theorem oc_but {set but : Int} (hb : bi set but = true) : ∀ (n : Nat) (v : Int), oc (isV set but) n v + (if v ≤ but ∧ but < v + n then 1 else 0) = oc (bi set) n v := by
  intro n
  induction n with
  | zero => intro v; show (0 : Int) + (if v ≤ but ∧ but < v + (0 : Nat) then 1 else 0) = 0; rw [if_neg (by omega)]; rfl
  | succ n ih =>
    intro v
    show (if isV set but v = true then 1 else 0) + oc (isV set but) n (v + 1) + (if v ≤ but ∧ but < v + ((n + 1 : Nat) : Int) then 1 else 0) = (if bi set v = true then 1 else 0) + oc (bi set) n (v + 1)
    have h := ih (v + 1)
    by_cases e : v = but
    · subst e
      rw [if_neg (show ¬ isV set v v = true by unfold isV; simp), if_pos (show v ≤ v ∧ v < v + ((n + 1 : Nat) : Int) by omega), if_pos hb]
      rw [if_neg (by omega)] at h
      omega
    · have e2 : isV set but v = bi set v := by unfold isV; simp [e]
      rw [e2]
      by_cases z : v + 1 ≤ but ∧ but < v + 1 + (n : Int)
      · rw [if_pos z] at h; rw [if_pos (show v ≤ but ∧ but < v + ((n + 1 : Nat) : Int) by omega)]; omega
      · rw [if_neg z] at h; rw [if_neg (show ¬ (v ≤ but ∧ but < v + ((n + 1 : Nat) : Int)) by omega)]; omega
theorem otherOf_r {set but : Int} {M : pm_M} {K : Int → pm_M → Prop} : ∀ (n : Nat) (low high k : Int), low + n = high + 1 → 0 ≤ low → high < 100 → 0 ≤ k → k < 2147483648 → K ((ot (isV set but) n low k).getD (-1)) M → k12_otherOf_6 high set but k low M K := by
  intro n
  induction n with
  | zero =>
    intro low high k h h0 h1 k0 k1 hq
    apply k12_otherOf_6_r
    rw [if_neg (by omega)]
    exact hq
  | succ n ih =>
    intro low high k h h0 h1 k0 k1 hq
    apply k12_otherOf_6_r
    rw [if_pos (by omega), w32_id (show -2147483648 ≤ low + 1 ∧ low + 1 < 2147483648 by omega)]
    have hq' : K ((if isV set but low = true then (if k = 0 then some low else ot (isV set but) n (low + 1) (k - 1)) else ot (isV set but) n (low + 1) k).getD (-1)) M := hq
    by_cases e : low = but
    · rw [if_pos e]
      rw [if_neg (show ¬ isV set but low = true by unfold isV; simp [e])] at hq'
      exact ih _ _ _ (by omega) (by omega) h1 k0 k1 hq'
    rw [if_neg e]
    by_cases b : pm_iand (pm_ishr set low) 1 = 1
    · rw [if_pos b]
      rw [if_pos (show isV set but low = true by unfold isV bi; simp [e, b])] at hq'
      by_cases z : k = 0
      · rw [if_pos z] at hq' ⊢; exact hq'
      · rw [if_neg z] at hq' ⊢
        rw [w32_id (show -2147483648 ≤ k + (-1) ∧ k + (-1) < 2147483648 by omega)]
        exact ih _ _ _ (by omega) (by omega) h1 (by omega) (by omega) hq'
    · rw [if_neg b]
      rw [if_neg (show ¬ isV set but low = true by unfold isV bi; simp [b])] at hq'
      exact ih _ _ _ (by omega) (by omega) h1 k0 k1 hq'
theorem otherVar_r {set but : Int} {M : pm_M} {K : Int → pm_M → Prop} (hs : gI M 2 18 = set) : ∀ (n : Nat) (low k : Int), low + n = 9 → 0 ≤ low → 0 ≤ k → k < 2147483648 → K ((ot (isV set but) n low k).getD (-100)) M → k0_otherVariable_5 but k low M K := by
  intro n
  induction n with
  | zero =>
    intro low k h h0 k0 k1 hq
    apply k0_otherVariable_5_r
    rw [if_neg (by omega)]
    exact hq
  | succ n ih =>
    intro low k h h0 k0 k1 hq
    apply k0_otherVariable_5_r
    rw [if_pos (by omega), w32_id (show -2147483648 ≤ low + 1 ∧ low + 1 < 2147483648 by omega), hs]
    have hq' : K ((if isV set but low = true then (if k = 0 then some low else ot (isV set but) n (low + 1) (k - 1)) else ot (isV set but) n (low + 1) k).getD (-100)) M := hq
    by_cases e : low = but
    · rw [if_pos e]
      rw [if_neg (show ¬ isV set but low = true by unfold isV; simp [e])] at hq'
      exact ih _ _ (by omega) (by omega) k0 k1 hq'
    rw [if_neg e]
    by_cases b : pm_iand (pm_ishr set low) 1 = 1
    · rw [if_pos b]
      rw [if_pos (show isV set but low = true by unfold isV bi; simp [e, b])] at hq'
      by_cases z : k = 0
      · rw [if_pos z] at hq' ⊢; exact hq'
      · rw [if_neg z] at hq' ⊢
        rw [w32_id (show -2147483648 ≤ k + (-1) ∧ k + (-1) < 2147483648 by omega)]
        exact ih _ _ (by omega) (by omega) (by omega) (by omega) hq'
    · rw [if_neg b]
      rw [if_neg (show ¬ isV set but low = true by unfold isV bi; simp [b])] at hq'
      exact ih _ _ (by omega) (by omega) k0 k1 hq'
theorem bitCount_r {v : Int} {M : pm_M} {K : Int → pm_M → Prop} (hv : 0 ≤ v ∧ v < 512) (hq : K (pc v) M) : kJ6_bitCount_0f7a4 v M K := by
  obtain ⟨k, rfl⟩ : ∃ k : Nat, v = (k : Int) := ⟨v.toNat, by omega⟩
  have key : ∀ k : Nat, k < 512 → (fun a1 : Int => (pm_iand (w32 ((w32 ((pm_iand (w32 ((w32 ((pm_iand (w32 (a1 - (pm_iand (pm_iushr a1 1) 1431655765))) 858993459) + (pm_iand (pm_iushr (w32 (a1 - (pm_iand (pm_iushr a1 1) 1431655765))) 2) 858993459))) + (pm_iushr (w32 ((pm_iand (w32 (a1 - (pm_iand (pm_iushr a1 1) 1431655765))) 858993459) + (pm_iand (pm_iushr (w32 (a1 - (pm_iand (pm_iushr a1 1) 1431655765))) 2) 858993459))) 4))) 252645135) + (pm_iushr (pm_iand (w32 ((w32 ((pm_iand (w32 (a1 - (pm_iand (pm_iushr a1 1) 1431655765))) 858993459) + (pm_iand (pm_iushr (w32 (a1 - (pm_iand (pm_iushr a1 1) 1431655765))) 2) 858993459))) + (pm_iushr (w32 ((pm_iand (w32 (a1 - (pm_iand (pm_iushr a1 1) 1431655765))) 858993459) + (pm_iand (pm_iushr (w32 (a1 - (pm_iand (pm_iushr a1 1) 1431655765))) 2) 858993459))) 4))) 252645135) 8))) + (pm_iushr (w32 ((pm_iand (w32 ((w32 ((pm_iand (w32 (a1 - (pm_iand (pm_iushr a1 1) 1431655765))) 858993459) + (pm_iand (pm_iushr (w32 (a1 - (pm_iand (pm_iushr a1 1) 1431655765))) 2) 858993459))) + (pm_iushr (w32 ((pm_iand (w32 (a1 - (pm_iand (pm_iushr a1 1) 1431655765))) 858993459) + (pm_iand (pm_iushr (w32 (a1 - (pm_iand (pm_iushr a1 1) 1431655765))) 2) 858993459))) 4))) 252645135) + (pm_iushr (pm_iand (w32 ((w32 ((pm_iand (w32 (a1 - (pm_iand (pm_iushr a1 1) 1431655765))) 858993459) + (pm_iand (pm_iushr (w32 (a1 - (pm_iand (pm_iushr a1 1) 1431655765))) 2) 858993459))) + (pm_iushr (w32 ((pm_iand (w32 (a1 - (pm_iand (pm_iushr a1 1) 1431655765))) 858993459) + (pm_iand (pm_iushr (w32 (a1 - (pm_iand (pm_iushr a1 1) 1431655765))) 2) 858993459))) 4))) 252645135) 8))) 16))) 63)) (k : Int) = pc (k : Int) := by decide +kernel
  exact kJ6_bitCount_0f7a4_r (Eq.mpr (congrArg (fun x => K x M) (key k (by omega))) hq)
theorem bits_r {v : Int} {M : pm_M} {K : Int → pm_M → Prop} (hv : 0 ≤ v ∧ v < 512) (hq : K (pc v) M) : k12_bits v M K := by
  have key : ∀ k : Nat, k < 512 → k ≠ 0 → 0 ≤ pm_iand (k : Int) (w32 ((k : Int) - 1)) ∧ pm_iand (k : Int) (w32 ((k : Int) - 1)) < (k : Int) ∧ pc (pm_iand (k : Int) (w32 ((k : Int) - 1))) + 1 = pc (k : Int) := by decide +kernel
  have loop : ∀ (m : Nat) (c v : Int), v.toNat ≤ m → 0 ≤ v → v < 512 → 0 ≤ c → c + v < 1000 → K (c + pc v) M → k12_bits_4 c v M K := by
    intro m
    induction m with
    | zero =>
      intro c v hm h0 h1 c0 c1 hq
      have : v = 0 := by omega
      subst this
      apply k12_bits_4_r
      rw [if_pos rfl]
      rw [show pc 0 = 0 by decide +kernel, Int.add_zero] at hq
      exact hq
    | succ m ih =>
      intro c v hm h0 h1 c0 c1 hq
      apply k12_bits_4_r
      by_cases e : v = 0
      · subst e
        rw [if_pos rfl]
        rw [show pc 0 = 0 by decide +kernel, Int.add_zero] at hq
        exact hq
      · rw [if_neg e, w32_id (show -2147483648 ≤ c + 1 ∧ c + 1 < 2147483648 by omega)]
        obtain ⟨k, rfl⟩ : ∃ k : Nat, v = (k : Int) := ⟨v.toNat, by omega⟩
        obtain ⟨q0, q1, q2⟩ := key k (by omega) (by omega)
        refine ih _ _ (by omega) q0 (by omega) (by omega) (by omega) ?_
        rw [show c + 1 + pc (pm_iand (k : Int) (w32 ((k : Int) - 1))) = c + pc (k : Int) by omega]
        exact hq
  apply k12_bits_r
  refine loop _ 0 v (Nat.le_refl _) hv.1 hv.2 (by decide) (by omega) ?_
  rw [Int.zero_add]; exact hq

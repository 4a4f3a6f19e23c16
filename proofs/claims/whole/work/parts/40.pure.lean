-- needs 30 31 32
/-! what an expression comes to, of numbers alone -/
theorem wid {x : Int} (h1 : -2147483648 ≤ x) (h2 : x < 2147483648) : w32 x = x := by unfold w32; omega
/-- a program: rows by the numbers of the class's cells (3 kind, 4 value, 5 mark, 6 parent, 7 owner, 8 second, 9 last, 10 after, 11 inner, 12 other, 14 statements; 2 the counts) -/
abbrev Pg : Type := Nat → Int → Int
def comb (s l r : Int) : Int := if s = 0 then w32 (l + r) else if s = 1 then w32 (l - r) else if s = 2 then w32 (l * r) else if s = 3 then w32 (l.tdiv r) else if s = 4 then l.tmod r else if s = 5 then (if l < r then 1 else 0) else if s = 6 then (if l ≤ r then 1 else 0) else if s = 7 then (if l = r then 1 else 0) else if s = 8 then (if l = r then 0 else 1) else if s = 9 then (if l ≤ r then 0 else 1) else (if l < r then 0 else 1)
def cmb (P : Pg) (n a b : Int) : Option Int :=
  if (if P 5 n = 3 then a else b) = 0 ∧ (P 4 n = 3 ∨ P 4 n = 4) then none else some (comb (P 4 n) (if P 5 n = 3 then b else a) (if P 5 n = 3 then a else b))
def evx (P : Pg) (vr : Int → Int) : Nat → Int → Option Int
  | 0, _ => none
  | f + 1, n => if P 3 n = 4 then some (P 4 n) else if P 3 n = 5 then some (vr (P 4 n)) else if P 3 n = 6 then (evx P vr f (n + 1)).map (fun x => if P 5 n = 1 then x else w32 (-x)) else
    match evx P vr f (n + 1) with
    | none => none
    | some a => match evx P vr f (P 8 n) with
      | none => none
      | some b => cmb P n a b
/-- the nodes from n to e are one expression -/
def Ex (P : Pg) : Nat → Int → Int → Prop
  | 0, _, _ => False
  | f + 1, n, e => (P 3 n = 4 ∧ e = n) ∨ (P 3 n = 5 ∧ e = n) ∨ (P 3 n = 6 ∧ Ex P f (n + 1) e) ∨ (P 3 n = 7 ∧ Ex P f (n + 1) (P 8 n - 1) ∧ Ex P f (P 8 n) e)
theorem Ex.le {P : Pg} : ∀ {f : Nat} {n e : Int}, Ex P f n e → n ≤ e := by
  intro f
  induction f with
  | zero => intro n e h; exact h.elim
  | succ f ih =>
    intro n e h
    rcases h with ⟨-, h⟩ | ⟨-, h⟩ | ⟨-, h⟩ | ⟨-, h1, h2⟩
    · omega
    · omega
    · have := ih h; omega
    · have := ih h1; have := ih h2; omega
theorem Ex.sub {P : Pg} : ∀ {f : Nat} {n e : Int}, Ex P f n e → ∀ m, n ≤ m → m ≤ e → ∃ f' e', Ex P f' m e' ∧ e' ≤ e := by
  intro f
  induction f with
  | zero => intro n e h; exact h.elim
  | succ f ih =>
    intro n e h m h1 h2
    by_cases hm : m = n
    · subst hm; exact ⟨f + 1, e, h, Int.le_refl _⟩
    · rcases h with ⟨-, h⟩ | ⟨-, h⟩ | ⟨-, h⟩ | ⟨-, ha, hb⟩
      · omega
      · omega
      · exact ih h m (by omega) h2
      · by_cases hs : m < P 8 n
        · obtain ⟨f', e', q1, q2⟩ := ih ha m (by omega) (by omega)
          have := hb.le
          exact ⟨f', e', q1, by omega⟩
        · exact ih hb m (by omega) h2
theorem evx_fuel {P : Pg} {vr : Int → Int} : ∀ {f : Nat} {n e : Int}, Ex P f n e → ∀ g g' : Nat, e - n < g → e - n < g' → evx P vr g n = evx P vr g' n := by
  intro f
  induction f with
  | zero => intro n e h; exact h.elim
  | succ f ih =>
    intro n e h g g' hg hg'
    have hle := h.le
    obtain ⟨k, rfl⟩ : ∃ k, g = k + 1 := ⟨g - 1, by omega⟩
    obtain ⟨k', rfl⟩ : ∃ k, g' = k + 1 := ⟨g' - 1, by omega⟩
    unfold evx
    rcases h with ⟨h0, h⟩ | ⟨h0, h⟩ | ⟨h0, h⟩ | ⟨h0, ha, hb⟩
    · rw [if_pos h0, if_pos h0]
    · simp [h0]
    · simp [h0, ih h k k' (by omega) (by omega)]
    · have := ha.le
      have := hb.le
      rw [ih ha k k' (by omega) (by omega), ih hb k k' (by omega) (by omega)]
/-- one step of it -/
theorem evx_at {P : Pg} {vr : Int → Int} {f : Nat} {n e : Int} (h : Ex P f n e) (h0 : 0 ≤ n) (he : e < 60) : evx P vr 60 n = if P 3 n = 4 then some (P 4 n) else if P 3 n = 5 then some (vr (P 4 n)) else if P 3 n = 6 then (evx P vr 60 (n + 1)).map (fun x => if P 5 n = 1 then x else w32 (-x)) else
    match evx P vr 60 (n + 1) with
    | none => none
    | some a => match evx P vr 60 (P 8 n) with
      | none => none
      | some b => cmb P n a b := by
  have hle := h.le
  rw [evx_fuel h 60 61 (by omega) (by omega)]
  conv => lhs; unfold evx
theorem Ex.kids {P : Pg} {f : Nat} {n e : Int} (h : Ex P f n e) : (P 3 n = 4 ∨ P 3 n = 5) ∨ (P 3 n = 6 ∧ n + 1 ≤ e ∧ ∃ f', Ex P f' (n + 1) e) ∨ (P 3 n = 7 ∧ n + 1 < P 8 n ∧ P 8 n ≤ e ∧ (∃ f', Ex P f' (n + 1) (P 8 n - 1)) ∧ ∃ f', Ex P f' (P 8 n) e) := by
  cases f with
  | zero => exact h.elim
  | succ f =>
    rcases h with ⟨h0, h⟩ | ⟨h0, h⟩ | ⟨h0, h⟩ | ⟨h0, ha, hb⟩
    · exact Or.inl (Or.inl h0)
    · exact Or.inl (Or.inr h0)
    · exact Or.inr (Or.inl ⟨h0, h.le, f, h⟩)
    · have := ha.le
      have := hb.le
      exact Or.inr (Or.inr ⟨h0, by omega, by omega, ⟨f, ha⟩, f, hb⟩)
/-- a crash within is a crash -/
theorem evx_crash {P : Pg} {vr : Int → Int} : ∀ {f : Nat} {n e : Int}, Ex P f n e → 0 ≤ n → e < 60 → ∀ m, n ≤ m → m ≤ e → evx P vr 60 m = none → evx P vr 60 n = none := by
  intro f
  induction f with
  | zero => intro n e h; exact h.elim
  | succ f ih =>
    intro n e h h0 he m h1 h2 hm
    by_cases hmn : m = n
    · subst hmn; exact hm
    · rw [evx_at h h0 he]
      rcases h with ⟨hk, h⟩ | ⟨hk, h⟩ | ⟨hk, h⟩ | ⟨hk, ha, hb⟩
      · omega
      · omega
      · rw [if_neg (by omega), if_neg (by omega), if_pos hk, ih h (by omega) he m (by omega) h2 hm]; rfl
      · have := ha.le
        have := hb.le
        rw [if_neg (by omega), if_neg (by omega), if_neg (by omega)]
        by_cases hs : m < P 8 n
        · rw [ih ha (by omega) (by omega) m (by omega) (by omega) hm]
        · rw [ih hb (by omega) he m (by omega) h2 hm]
          cases evx P vr 60 (n + 1) <;> rfl
/-- what a run knows: variables, statements done, how, result, askings, statements come to -/
abbrev Sg : Type := (Int → Int) × List Int × Int × Int × Int × List Int
/-- a condition forced (node, so) and an asking turned round -/
abbrev Fo : Type := Int × Int × Int
def soP (P : Pg) (F : Fo) (at' v ask : Int) : Bool :=
  let s0 := (decide (v ≠ 0)) != (decide (P 5 at' = 2))
  let s1 := if at' = F.1 then decide (F.2.1 ≠ 0) else s0
  if ask = F.2.2 then !s1 else s1
def fput (f : Int → Int) (i v : Int) : Int → Int := fun j => if j.toNat = i.toNat then v else f j
theorem gI_fput (M : pm_M) (a : Nat) (i v : Int) : gI (upI M a i v) a = fput (gI M a) i v := by
  funext j
  show (if a = a ∧ j.toNat = i.toNat then v else M a j.toNat) = (if j.toNat = i.toNat then v else M a j.toNat)
  simp only [true_and]
/-- a statement that is not left out -/
def fstep (P : Pg) (F : Fo) (s : Int) (σ : Sg) : Int × Sg :=
  if (300 : Nat) ≤ σ.2.1.length then (-1, (σ.1, σ.2.1, 2, σ.2.2.2.1, σ.2.2.2.2.1, s :: σ.2.2.2.2.2)) else
  match evx P σ.1 60 (s + 1) with
  | none => (-1, (σ.1, σ.2.1 ++ [s], 1, σ.2.2.2.1, σ.2.2.2.2.1, s :: σ.2.2.2.2.2))
  | some v =>
    if P 3 s = 0 then (P 10 s, (fput σ.1 (P 4 s) v, σ.2.1 ++ [s], σ.2.2.1, σ.2.2.2.1, σ.2.2.2.2.1, s :: σ.2.2.2.2.2))
    else if P 3 s = 3 then (-1, (σ.1, σ.2.1 ++ [s], σ.2.2.1, v, σ.2.2.2.2.1, s :: σ.2.2.2.2.2))
    else (if soP P F s v σ.2.2.2.2.1 = true then P 11 s else P 12 s, (σ.1, σ.2.1 ++ [s], σ.2.2.1, σ.2.2.2.1, σ.2.2.2.2.1 + 1, s :: σ.2.2.2.2.2))
def isSt (P : Pg) (s : Int) : Prop := 0 ≤ s ∧ s < P 2 15 ∧ P 3 s ≤ 3
theorem isSt_dec (P : Pg) (s : Int) : isSt P s ∨ ¬ isSt P s := Classical.em _
noncomputable def flat (P : Pg) (F : Fo) : Nat → Int → Sg → Int × Sg
  | 0, s, σ => (s, σ)
  | n + 1, s, σ => if 0 ≤ s ∧ s < P 2 15 ∧ P 3 s ≤ 3 then (if P 5 s = 1 then flat P F n (P 10 s) σ else flat P F n (fstep P F s σ).1 (fstep P F s σ).2) else (s, σ)

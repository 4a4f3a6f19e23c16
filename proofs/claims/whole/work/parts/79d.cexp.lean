-- needs 30 31 32 33a 33b 33c 33d 33e 33f 33g 33h 33i 33j 40 41 42 43 44 45 46 50 51 52 53 54 79a 79aa 79b
/-! expressions: read into a list of nodes; the class reads them so -/
abbrev Ps : Type := Sc × List (Int × Int)
def lvl (v : Int) : Int := if v < 5 then (if v < 2 then 1 else 2) else 0
def ins (l : List (Int × Int)) (k : Nat) (x : Int × Int) : List (Int × Int) := l.take k ++ x :: l.drop k
def refu (s : Sc) (k : Int) : Sc := if s.2.2.2.2 = 0 then (s.1, s.2.1, 1, s.2.2.2.1, 8 * s.2.1 + k) else s
def exm (u : Int → Int) (N c : Int) (s : Sc) : Sc := adv u N (if s.2.2.1 = 5 ∧ s.2.2.2.1 = c then s else refu s 1)
def vr (u : Int → Int) (s : Sc) : Int := if s.2.2.1 = 2 ∧ s.1 - s.2.1 = 1 then vch (u s.2.1) else -1
def lpf (g : Ps → Ps) (u : Int → Int) (N lev : Int) (k : Nat) : Nat → Ps → Ps
  | 0, S => S
  | n + 1, S => if S.1.2.2.1 = 4 ∧ lvl S.1.2.2.2.1 = lev then lpf g u N lev k n (g (adv u N S.1, ins S.2 k (7, S.1.2.2.2.1))) else S
def rx (u : Int → Int) (N : Int) : Nat → Int → Int → Ps → Ps
  | 0, _, _, S => S
  | f + 1, lev, d, S =>
    if lev ≤ 2 then lpf (rx u N f (lev + 1) d) u N lev S.2.length (if lev = 0 then 1 else 600) (rx u N f (lev + 1) d S)
    else if ((S.1.2.2.1 = 5 ∧ S.1.2.2.2.1 = 40) ∨ (S.1.2.2.1 = 4 ∧ S.1.2.2.2.1 = 1)) ∧ 8 ≤ d then (refu S.1 2, S.2)
    else if S.1.2.2.1 = 5 ∧ S.1.2.2.2.1 = 40 then (exm u N 41 (rx u N f 0 (d + 1) (adv u N S.1, S.2)).1, (rx u N f 0 (d + 1) (adv u N S.1, S.2)).2)
    else if S.1.2.2.1 = 4 ∧ S.1.2.2.2.1 = 1 then rx u N f 3 (d + 1) (adv u N S.1, S.2 ++ [(6, 0)])
    else if S.1.2.2.1 = 3 then (adv u N S.1, S.2 ++ [(4, S.1.2.2.2.1)])
    else if ¬ vr u S.1 = -1 then (adv u N S.1, S.2 ++ [(5, vr u S.1)])
    else (refu S.1 1, S.2)
/-- tokens as they can be -/
def SK (N : Int) (s : Sc) : Prop := (0 ≤ s.2.1 ∧ s.2.1 ≤ s.1 ∧ s.1 ≤ N) ∧ (¬ s.2.2.2.2 = 0 → s.2.2.1 = 1) ∧ (s.2.2.2.2 = 0 → ¬ s.2.2.1 = 1 ∧ (¬ s.2.2.1 = 0 → s.2.1 < s.1)) ∧ (s.2.2.1 = 3 → 0 ≤ s.2.2.2.1 ∧ s.2.2.2.1 ≤ 999) ∧ (s.2.2.1 = 4 → 0 ≤ s.2.2.2.1 ∧ s.2.2.2.1 ≤ 10) ∧ (0 ≤ s.2.2.1 ∧ s.2.2.1 ≤ 5) ∧ (s.2.2.1 = 5 → isM s.2.2.2.1)
theorem sbe_rng (c : Int) : sbe c = -1 ∨ (0 ≤ sbe c ∧ sbe c ≤ 10) := by
  unfold sbe
  split
  · omega
  split
  · omega
  split
  · omega
  split <;> omega
theorem sal_rng (c : Int) : sal c = -1 ∨ (0 ≤ sal c ∧ sal c ≤ 10) := by
  unfold sal
  split
  · omega
  split
  · omega
  split
  · omega
  split
  · omega
  split
  · omega
  split
  · omega
  split <;> omega
theorem tok_ok {u : Int → Int} {N p : Int} (hp : 0 ≤ p ∧ p ≤ N) : (p ≤ (tok u N p).2.2 ∧ (tok u N p).2.2 ≤ N) ∧ (¬ (tok u N p).1 = 0 → p < (tok u N p).2.2) ∧ ((tok u N p).1 = 3 → 0 ≤ (tok u N p).2.1 ∧ (tok u N p).2.1 ≤ 999) ∧ ((tok u N p).1 = 4 → 0 ≤ (tok u N p).2.1 ∧ (tok u N p).2.1 ≤ 10) ∧ (0 ≤ (tok u N p).1 ∧ (tok u N p).1 ≤ 5) ∧ ((tok u N p).1 = 5 → isM (tok u N p).2.1) := by
  unfold tok
  by_cases a : N ≤ p
  · rw [if_pos a]; exact ⟨⟨Int.le_refl _, hp.2⟩, fun z => absurd rfl z, fun z => absurd z (by show ¬ (0 : Int) = 3; decide), fun z => absurd z (by show ¬ (0 : Int) = 4; decide), ⟨by show (0 : Int) ≤ 0; decide, by show (0 : Int) ≤ 5; decide⟩, fun z => absurd z (by show ¬ (0 : Int) = 5; decide)⟩
  rw [if_neg a]
  by_cases b : 97 ≤ u p ∧ u p ≤ 122
  · rw [if_pos b]
    have h := wx_rng (u := u) (N := N) _ (p + 1) (Nat.le_refl _) (by omega) (by omega)
    rw [wx_yes (by omega) b]
    exact ⟨⟨by simp only []; omega, by simp only []; omega⟩, fun _ => by simp only []; omega, fun z => absurd z (by show ¬ (2 : Int) = 3; decide), fun z => absurd z (by show ¬ (2 : Int) = 4; decide), ⟨by show (0 : Int) ≤ 2; decide, by show (2 : Int) ≤ 5; decide⟩, fun z => absurd z (by show ¬ (2 : Int) = 5; decide)⟩
  rw [if_neg b]
  by_cases c : 48 ≤ u p ∧ u p ≤ 57
  · rw [if_pos c]
    have e := nv_yes (u := u) (N := N) (p0 := p) (p := p) (v := 0) (by omega) c
    have h := nv_rng (u := u) (N := N) (p0 := p) _ (p + 1) (if p - p < 3 then 10 * 0 + u p - 48 else 0) (Nat.le_refl _) hp.1 (by omega) (by omega) (by split <;> omega) (by rw [if_pos (by omega), if_neg (by omega), if_pos (by omega)]; omega)
    rw [← e] at h
    refine ⟨⟨by simp only []; omega, by simp only []; omega⟩, fun _ => by simp only []; omega, fun _ => ⟨by simp only []; omega, by simp only []; omega⟩, fun z => ?_, ⟨?_, ?_⟩, fun z => ?_⟩
    · simp only [] at z; split at z <;> omega
    · simp only []; split <;> omega
    · simp only []; split <;> omega
    · simp only [] at z; split at z <;> omega
  rw [if_neg c]
  unfold tsg
  have r1 := sbe_rng (u p)
  have r2 := sal_rng (u p)
  by_cases d : p + 1 < N ∧ u (p + 1) = 61 ∧ ¬ sbe (u p) = -1
  · rw [if_pos d]
    exact ⟨⟨by simp only []; omega, by simp only []; omega⟩, fun _ => by simp only []; omega, fun z => absurd z (by show ¬ (4 : Int) = 3; decide), fun _ => ⟨by simp only []; omega, by simp only []; omega⟩, ⟨by show (0 : Int) ≤ 4; decide, by show (4 : Int) ≤ 5; decide⟩, fun z => absurd z (by show ¬ (4 : Int) = 5; decide)⟩
  rw [if_neg d]
  by_cases e : ¬ sal (u p) = -1
  · rw [if_pos e]
    exact ⟨⟨by simp only []; omega, by simp only []; omega⟩, fun _ => by simp only []; omega, fun z => absurd z (by show ¬ (4 : Int) = 3; decide), fun _ => ⟨by simp only []; omega, by simp only []; omega⟩, ⟨by show (0 : Int) ≤ 4; decide, by show (4 : Int) ≤ 5; decide⟩, fun z => absurd z (by show ¬ (4 : Int) = 5; decide)⟩
  rw [if_neg e]
  by_cases g : u p = 61 ∨ u p = 40 ∨ u p = 41 ∨ u p = 123 ∨ u p = 125 ∨ u p = 59
  · rw [if_pos g]
    exact ⟨⟨by simp only []; omega, by simp only []; omega⟩, fun _ => by simp only []; omega, fun z => absurd z (by show ¬ (5 : Int) = 3; decide), fun z => absurd z (by show ¬ (5 : Int) = 4; decide), ⟨by show (0 : Int) ≤ 5; decide, by show (5 : Int) ≤ 5; decide⟩, fun _ => g⟩
  · rw [if_neg g]
    exact ⟨⟨by simp only []; omega, by simp only []; omega⟩, fun _ => by simp only []; omega, fun z => absurd z (by show ¬ (1 : Int) = 3; decide), fun z => absurd z (by show ¬ (1 : Int) = 4; decide), ⟨by show (0 : Int) ≤ 1; decide, by show (1 : Int) ≤ 5; decide⟩, fun z => absurd z (by show ¬ (1 : Int) = 5; decide)⟩
theorem SK.advk {u : Int → Int} {N : Int} {s : Sc} (h : SK N s) : SK N (adv u N s) := by
  unfold adv
  by_cases z : s.2.2.2.2 = 0
  · rw [if_pos z]
    have hp : 0 ≤ s.1 ∧ s.1 ≤ N := ⟨by have := h.1; omega, h.1.2.2⟩
    have h1 := sk_rng (u := u) (N := N) _ s.1 (Nat.le_refl _) hp.1 hp.2
    obtain ⟨a, b, c, d, e⟩ := tok_ok (u := u) (N := N) (p := sk u N s.1) ⟨by omega, h1.2.1⟩
    refine ⟨⟨by simp only []; omega, a.1, a.2⟩, fun y => ?_, fun y => ⟨fun w => ?_, b⟩, c, d, e⟩
    · simp only [] at y ⊢
      by_cases w : (tok u N (sk u N s.1)).1 = 1
      · exact w
      · rw [if_neg w] at y; exact absurd rfl y
    · simp only [] at y w
      rw [if_pos w] at y; omega
  · rw [if_neg z]; exact h
theorem SK.refuk {N : Int} {s : Sc} (h : SK N s) {k : Int} (hk : 0 < k) : SK N (refu s k) := by
  unfold refu
  by_cases z : s.2.2.2.2 = 0
  · rw [if_pos z]
    refine ⟨h.1, fun _ => rfl, fun y => ?_, fun y => absurd y (by show ¬ (1 : Int) = 3; decide), fun y => absurd y (by show ¬ (1 : Int) = 4; decide), ⟨by show (0 : Int) ≤ 1; decide, by show (1 : Int) ≤ 5; decide⟩, fun z => absurd z (by show ¬ (1 : Int) = 5; decide)⟩
    have := h.1.1
    simp only [] at y
    omega
  · rw [if_neg z]; exact h
theorem SK.exmk {u : Int → Int} {N c : Int} {s : Sc} (h : SK N s) : SK N (exm u N c s) := by
  unfold exm
  by_cases z : s.2.2.1 = 5 ∧ s.2.2.2.1 = c
  · rw [if_pos z]; exact h.advk
  · rw [if_neg z]; exact (h.refuk (by decide)).advk
/-- dead: nothing moves any more -/
theorem adv_dead {u : Int → Int} {N : Int} {s : Sc} (h : ¬ s.2.2.2.2 = 0) : adv u N s = s := if_neg h
theorem refu_dead {s : Sc} {k : Int} (h : ¬ s.2.2.2.2 = 0) : refu s k = s := if_neg h
theorem exm_dead {u : Int → Int} {N c : Int} {s : Sc} (h : ¬ s.2.2.2.2 = 0) : exm u N c s = s := by
  unfold exm
  by_cases z : s.2.2.1 = 5 ∧ s.2.2.2.1 = c
  · rw [if_pos z, adv_dead h]
  · rw [if_neg z, refu_dead h, adv_dead h]
theorem rx_dead {u : Int → Int} {N : Int} : ∀ (f : Nat) (lev d : Int) (S : Ps), ¬ S.1.2.2.2.2 = 0 → S.1.2.2.1 = 1 → rx u N f lev d S = S := by
  intro f
  induction f with
  | zero => intro lev d S _ _; rfl
  | succ f ih =>
    intro lev d S h h1
    unfold rx
    by_cases hl : lev ≤ 2
    · rw [if_pos hl, ih _ _ _ h h1]
      have : ∀ n : Nat, lpf (rx u N f (lev + 1) d) u N lev S.2.length n S = S := by
        intro n
        cases n with
        | zero => rfl
        | succ n => unfold lpf; rw [if_neg (fun z => by omega)]
      exact this _
    · have hv : vr u S.1 = -1 := by unfold vr; rw [if_neg (fun z => by omega)]
      rw [if_neg hl, if_neg (fun z => by omega), if_neg (fun z => by omega), if_neg (fun z => by omega), if_neg (by omega), if_neg (fun z => z hv), refu_dead h]
/-- the class's reading so far -/
def MV (l : List (Int × Int)) (x : Int) : Prop := (0 ≤ x ∧ x < 512) ∧ ∀ v, 0 ≤ v → v < 9 → (bi x v = true ↔ ∃ y ∈ l, (y.1 = 0 ∨ y.1 = 5) ∧ y.2 = v)
def CSt (L : Int → Int) (N : Int) (o : Nat) (S : Ps) (M : pm_M) : Prop := TpC L N M ∧ Hs S.1 M ∧ gI M 71 1 = (o : Int) ∧ gI M o 15 = (S.2.length : Int) ∧ (S.2.length ≤ 60 → ∀ i : Nat, i < S.2.length → gI M (o + 1) (i : Int) = (S.2.getD i (0, 0)).1 ∧ gI M (o + 2) (i : Int) = (S.2.getD i (0, 0)).2) ∧ MV S.2 (gI M o 18)
/-- what reading an expression writes -/
def pE (o a i : Nat) : Bool := p7 a i || a == o + 1 || a == o + 2 || (a == o && (i == 15 || i == 18))
theorem MV.add {l : List (Int × Int)} {x : Int} (h : MV l x) {l' : List (Int × Int)} {y : Int × Int} (hl : ∀ z, z ∈ l' ↔ z = y ∨ z ∈ l) : (¬ (y.1 = 0 ∨ y.1 = 5) → MV l' x) ∧ ((y.1 = 0 ∨ y.1 = 5) → 0 ≤ y.2 ∧ y.2 < 9 → MV l' (pm_ior x (pm_ishl 1 y.2))) := by
  constructor
  · intro hk
    refine ⟨h.1, fun v v0 v1 => ?_⟩
    rw [h.2 v v0 v1]
    constructor
    · intro ⟨z, z1, z2⟩; exact ⟨z, (hl z).mpr (Or.inr z1), z2⟩
    · intro ⟨z, z1, z2⟩
      rcases (hl z).mp z1 with w | w
      · subst w; exact absurd z2.1 hk
      · exact ⟨z, w, z2⟩
  · intro hk hv
    refine ⟨(bi_or (w := 0) h.1 hv (by decide)).1, fun v v0 v1 => ?_⟩
    rw [(bi_or h.1 hv ⟨v0, v1⟩).2, h.2 v v0 v1]
    constructor
    · intro w
      rcases w with w | ⟨z, z1, z2⟩
      · exact ⟨y, (hl y).mpr (Or.inl rfl), hk, w.symm⟩
      · exact ⟨z, (hl z).mpr (Or.inr z1), z2⟩
    · intro ⟨z, z1, z2⟩
      rcases (hl z).mp z1 with w | w
      · subst w; exact Or.inl z2.2.symm
      · exact Or.inr ⟨z, w, z2⟩
theorem ins_len {l : List (Int × Int)} {k : Nat} {x : Int × Int} (h : k ≤ l.length) : (ins l k x).length = l.length + 1 := by
  unfold ins
  rw [List.length_append, List.length_cons, List.length_take, List.length_drop]; omega
theorem ins_mem {l : List (Int × Int)} {k : Nat} {x z : Int × Int} : z ∈ ins l k x ↔ z = x ∨ z ∈ l := by
  unfold ins
  rw [List.mem_append, List.mem_cons]
  constructor
  · intro h
    rcases h with h | h | h
    · exact Or.inr (List.mem_of_mem_take h)
    · exact Or.inl h
    · exact Or.inr (List.mem_of_mem_drop h)
  · intro h
    rcases h with h | h
    · exact Or.inr (Or.inl h)
    · rw [← List.take_append_drop k l] at h
      rcases List.mem_append.mp h with h | h
      · exact Or.inl h
      · exact Or.inr (Or.inr h)
theorem ins_get {l : List (Int × Int)} {k i : Nat} {x : Int × Int} (h : k ≤ l.length) : (ins l k x).getD i (0, 0) = if i < k then l.getD i (0, 0) else if i = k then x else l.getD (i - 1) (0, 0) := by
  unfold ins
  rw [List.getD_eq_getElem?_getD]
  have hk : (l.take k).length = k := by rw [List.length_take]; omega
  by_cases a : i < k
  · rw [if_pos a, List.getElem?_append_left (by omega), List.getElem?_take, if_pos a, ← List.getD_eq_getElem?_getD]
  · rw [if_neg a, List.getElem?_append_right (by omega), hk]
    by_cases b : i = k
    · subst b; rw [if_pos rfl, Nat.sub_self]; rfl
    · rw [if_neg b]
      obtain ⟨j, hj⟩ : ∃ j, i - k = j + 1 := ⟨i - k - 1, by omega⟩
      rw [hj, List.getElem?_cons_succ, List.getElem?_drop, show k + j = i - 1 by omega, ← List.getD_eq_getElem?_getD]
theorem ins_end {l : List (Int × Int)} {x : Int × Int} : ins l l.length x = l ++ [x] := by
  unfold ins
  rw [List.take_length, List.drop_length]

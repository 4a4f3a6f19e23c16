/-! statements: of numbers and lists alone -/
/-- a statement: where, in which, which block of it, its expression's last node -/
abbrev Stm : Type := Int × Int × Int × Int
abbrev Qs : Type := Ps × List Stm
def wdb (u : Int → Int) (s : Sc) (w : List Int) : Bool := decide (s.2.2.1 = 2) && (decide (s.1 - s.2.1 = (w.length : Int)) && (List.range w.length).all (fun i => decide (u (s.2.1 + (i : Int)) = w.getD i 0)))
theorem wdb_iff {u : Int → Int} {s : Sc} {w : List Int} : wdb u s w = true ↔ s.2.2.1 = 2 ∧ s.1 - s.2.1 = (w.length : Int) ∧ ∀ i : Nat, i < w.length → u (s.2.1 + (i : Int)) = w.getD i 0 := by
  unfold wdb
  rw [Bool.and_eq_true, Bool.and_eq_true, decide_eq_true_eq, decide_eq_true_eq, List.all_eq_true]
  constructor
  · intro ⟨a, b, c⟩
    exact ⟨a, b, fun i hi => of_decide_eq_true (c i (List.mem_range.mpr hi))⟩
  · intro ⟨a, b, c⟩
    exact ⟨a, b, fun i hi => decide_eq_true (c i (List.mem_range.mp hi))⟩
def knd (u : Int → Int) (s : Sc) : Int := if ¬ vr u s = -1 then 0 else if wdb u s (pm_txt 3) = true then 1 else if wdb u s (pm_txt 4) = true then 2 else if wdb u s (pm_txt 5) = true then 3 else -1
theorem vr_rng (u : Int → Int) (s : Sc) : vr u s = -1 ∨ (0 ≤ vr u s ∧ vr u s < 9) := by
  unfold vr
  split
  · exact vch_rng _
  · exact Or.inl rfl
theorem knd_rng (u : Int → Int) (s : Sc) : knd u s = -1 ∨ (0 ≤ knd u s ∧ knd u s ≤ 3) := by
  unfold knd
  split
  · omega
  split
  · omega
  split
  · omega
  split <;> omega
theorem knd_ty {u : Int → Int} {s : Sc} (h : ¬ knd u s = -1) : s.2.2.1 = 2 := by
  unfold knd at h
  by_cases a : vr u s = -1
  · rw [if_neg (fun z => z a)] at h
    by_cases b : wdb u s (pm_txt 3) = true
    · exact (wdb_iff.mp b).1
    rw [if_neg b] at h
    by_cases c : wdb u s (pm_txt 4) = true
    · exact (wdb_iff.mp c).1
    rw [if_neg c] at h
    by_cases d : wdb u s (pm_txt 5) = true
    · exact (wdb_iff.mp d).1
    rw [if_neg d] at h
    exact absurd rfl h
  · by_cases b : s.2.2.1 = 2
    · exact b
    · exact absurd (by unfold vr; rw [if_neg (fun z => b z.1)]) a
theorem knd_v {u : Int → Int} {s : Sc} : knd u s = 0 ↔ ¬ vr u s = -1 := by
  unfold knd
  by_cases a : vr u s = -1
  · rw [if_neg (fun z => z a)]
    refine ⟨fun h => ?_, fun h => absurd a h⟩
    split at h
    · omega
    split at h
    · omega
    split at h <;> omega
  · rw [if_pos a]; exact ⟨fun _ => a, fun _ => rfl⟩
def rfq (k : Int) (Q : Qs) : Qs := ((refu Q.1.1 k, Q.1.2), Q.2)
def avq (u : Int → Int) (N : Int) (Q : Qs) : Qs := ((adv u N Q.1.1, Q.1.2), Q.2)
def xmq (u : Int → Int) (N c : Int) (Q : Qs) : Qs := ((exm u N c Q.1.1, Q.1.2), Q.2)
def blf (g : Qs → Qs) : Nat → Qs → Qs
  | 0, Q => Q
  | n + 1, Q => if Q.1.1.2.2.2.2 = 0 ∧ ¬ (Q.1.1.2.2.1 = 5 ∧ Q.1.1.2.2.2.1 = 125) then blf g n (g Q) else Q
def rbl (g : Qs → Qs) (u : Int → Int) (N dep : Int) (Q : Qs) : Qs := if (Q.1.1.2.2.1 = 5 ∧ Q.1.1.2.2.2.1 = 123) ∧ 4 ≤ dep then rfq 2 Q else xmq u N 125 (blf g 600 (xmq u N 123 Q))
/-- a statement's head -/
def hdp (u : Int → Int) (N : Int) (S : Ps) : Ps := (if knd u S.1 = 0 then exm u N 61 (adv u N S.1) else adv u N S.1, S.2 ++ [(knd u S.1, vr u S.1)])
/-- its head and expression -/
def exq (u : Int → Int) (N par br : Int) (Q : Qs) : Qs := (rx u N 36 0 0 (hdp u N Q.1), Q.2 ++ [((Q.1.2.length : Int), par, br, ((rx u N 36 0 0 (hdp u N Q.1)).2.length : Int) - 1)])
def rst (u : Int → Int) (N : Int) : Nat → Int → Int → Int → Qs → Qs
  | 0, _, _, _, Q => Q
  | f + 1, par, br, dep, Q =>
    if knd u Q.1.1 = -1 then rfq 1 Q else if 20 ≤ Q.2.length then rfq 2 Q
    else if knd u Q.1.1 = 0 ∨ knd u Q.1.1 = 3 then xmq u N 59 (exq u N par br Q)
    else if knd u Q.1.1 = 1 ∧ wdb u (rbl (rst u N f (Q.1.2.length : Int) 0 (dep + 1)) u N dep (exq u N par br Q)).1.1 (pm_txt 6) = true then rbl (rst u N f (Q.1.2.length : Int) 1 (dep + 1)) u N dep (avq u N (rbl (rst u N f (Q.1.2.length : Int) 0 (dep + 1)) u N dep (exq u N par br Q)))
    else rbl (rst u N f (Q.1.2.length : Int) 0 (dep + 1)) u N dep (exq u N par br Q)
theorem blf_stop {g : Qs → Qs} {n : Nat} {Q : Qs} (h : ¬ (Q.1.1.2.2.2.2 = 0 ∧ ¬ (Q.1.1.2.2.1 = 5 ∧ Q.1.1.2.2.2.1 = 125))) : blf g n Q = Q := by
  cases n with
  | zero => rfl
  | succ n =>
    show (if Q.1.1.2.2.2.2 = 0 ∧ ¬ (Q.1.1.2.2.1 = 5 ∧ Q.1.1.2.2.2.1 = 125) then blf g n (g Q) else Q) = _
    rw [if_neg h]
theorem blf_next {g : Qs → Qs} {n : Nat} {Q : Qs} (h : Q.1.1.2.2.2.2 = 0 ∧ ¬ (Q.1.1.2.2.1 = 5 ∧ Q.1.1.2.2.2.1 = 125)) : blf g (n + 1) Q = blf g n (g Q) := by
  show (if Q.1.1.2.2.2.2 = 0 ∧ ¬ (Q.1.1.2.2.1 = 5 ∧ Q.1.1.2.2.2.1 = 125) then blf g n (g Q) else Q) = _
  rw [if_pos h]
theorem rfq_dead {k : Int} {Q : Qs} (h : ¬ Q.1.1.2.2.2.2 = 0) : rfq k Q = Q := by unfold rfq; rw [refu_dead h]
theorem avq_dead {u : Int → Int} {N : Int} {Q : Qs} (h : ¬ Q.1.1.2.2.2.2 = 0) : avq u N Q = Q := by unfold avq; rw [adv_dead h]
theorem xmq_dead {u : Int → Int} {N c : Int} {Q : Qs} (h : ¬ Q.1.1.2.2.2.2 = 0) : xmq u N c Q = Q := by unfold xmq; rw [exm_dead h]
theorem rbl_dead {g : Qs → Qs} {u : Int → Int} {N dep : Int} {Q : Qs} (h : ¬ Q.1.1.2.2.2.2 = 0) : rbl g u N dep Q = Q := by
  unfold rbl
  by_cases a : (Q.1.1.2.2.1 = 5 ∧ Q.1.1.2.2.2.1 = 123) ∧ 4 ≤ dep
  · rw [if_pos a, rfq_dead h]
  · rw [if_neg a, xmq_dead h, blf_stop (fun z => h z.1), xmq_dead h]
theorem rst_dead {u : Int → Int} {N : Int} {f : Nat} {par br dep : Int} {Q : Qs} (h : ¬ Q.1.1.2.2.2.2 = 0) (h1 : Q.1.1.2.2.1 = 1) : rst u N f par br dep Q = Q := by
  cases f with
  | zero => rfl
  | succ f =>
    have hk : knd u Q.1.1 = -1 := Decidable.byContradiction (fun z => by have := knd_ty z; omega)
    unfold rst
    rw [if_pos hk, rfq_dead h]
/-- an expression as a list of nodes -/
def EXl : Nat → List (Int × Int) → Prop
  | 0, _ => False
  | f + 1, X => (∃ v, X = [(4, v)] ∧ 0 ≤ v ∧ v ≤ 999) ∨ (∃ v, X = [(5, v)] ∧ 0 ≤ v ∧ v < 9) ∨ (∃ Y, X = (6, 0) :: Y ∧ EXl f Y) ∨ (∃ v Y Z, X = (7, v) :: (Y ++ Z) ∧ (0 ≤ v ∧ v ≤ 10) ∧ EXl f Y ∧ EXl f Z)
theorem EXl.mono : ∀ {f g : Nat} {X : List (Int × Int)}, EXl f X → f ≤ g → EXl g X := by
  intro f
  induction f with
  | zero => intro g X h; exact h.elim
  | succ f ih =>
    intro g X h hg
    obtain ⟨g, rfl⟩ : ∃ k, g = k + 1 := ⟨g - 1, by omega⟩
    rcases h with h | h | ⟨Y, e, h⟩ | ⟨v, Y, Z, e, hv, h1, h2⟩
    · exact Or.inl h
    · exact Or.inr (Or.inl h)
    · exact Or.inr (Or.inr (Or.inl ⟨Y, e, ih h (by omega)⟩))
    · exact Or.inr (Or.inr (Or.inr ⟨v, Y, Z, e, hv, ih h1 (by omega), ih h2 (by omega)⟩))
def vld (x : Int × Int) : Prop := (0 ≤ x.1 ∧ x.1 ≤ 7) ∧ (x.1 = 0 ∨ x.1 = 5 → 0 ≤ x.2 ∧ x.2 < 9) ∧ (x.1 = 4 → 0 ≤ x.2 ∧ x.2 ≤ 999) ∧ (x.1 = 7 → 0 ≤ x.2 ∧ x.2 ≤ 10)
theorem EXl.vld' : ∀ {f : Nat} {X : List (Int × Int)}, EXl f X → 0 < X.length ∧ ∀ x ∈ X, vld x ∧ 4 ≤ x.1 := by
  intro f
  induction f with
  | zero => intro X h; exact h.elim
  | succ f ih =>
    intro X h
    rcases h with ⟨v, rfl, hv⟩ | ⟨v, rfl, hv⟩ | ⟨Y, rfl, h⟩ | ⟨v, Y, Z, rfl, hv, h1, h2⟩
    · refine ⟨by simp, fun x hx => ?_⟩
      rw [List.mem_singleton] at hx; subst hx
      unfold vld; simp only []; omega
    · refine ⟨by simp, fun x hx => ?_⟩
      rw [List.mem_singleton] at hx; subst hx
      unfold vld; simp only []; omega
    · refine ⟨by simp, fun x hx => ?_⟩
      rcases List.mem_cons.mp hx with hx | hx
      · subst hx; unfold vld; simp only []; omega
      · exact (ih h).2 x hx
    · refine ⟨by simp, fun x hx => ?_⟩
      rcases List.mem_cons.mp hx with hx | hx
      · subst hx; unfold vld; simp only []; omega
      · rcases List.mem_append.mp hx with hx | hx
        · exact (ih h1).2 x hx
        · exact (ih h2).2 x hx
theorem ins_app {l Y : List (Int × Int)} {x : Int × Int} : ins (l ++ Y) l.length x = l ++ x :: Y := by
  unfold ins
  rw [List.take_left, List.drop_left]
/-- what is read without a fault is an expression -/
theorem rx_EX {u : Int → Int} {N : Int} : ∀ (f : Nat) (lev d : Int) (S : Ps), 0 ≤ lev → lev ≤ 3 → 0 ≤ d → d ≤ 8 → 4 * (8 - d) + (4 - lev) ≤ f → SK N S.1 → (S.2.length : Int) ≤ (if S.1.2.2.2.2 = 0 then S.1.2.1 else S.1.1) → (rx u N f lev d S).1.2.2.2.2 = 0 → ∃ X g, (rx u N f lev d S).2 = S.2 ++ X ∧ EXl g X := by
  intro f
  induction f with
  | zero => intro lev d S l0 l3 d0 d8 hf; omega
  | succ f ih =>
    intro lev d S l0 l3 d0 d8 hf hS hl ha
    have h0 : S.1.2.2.2.2 = 0 := Decidable.byContradiction (fun z => by
      rw [rx_dead _ _ _ _ z (hS.2.1 z)] at ha; exact z ha)
    by_cases h2 : lev ≤ 2
    · have hrx : rx u N (f + 1) lev d S = lpf (rx u N f (lev + 1) d) u N lev S.2.length (if lev = 0 then 1 else 600) (rx u N f (lev + 1) d S) := by
        conv => lhs; unfold rx
        rw [if_pos h2]
      rw [hrx] at ha ⊢
      have g1 := rx_Gd (u := u) f (lev + 1) d S hS hl
      have loop : ∀ (n : Nat) (S1 : Ps), Gd N S S1 → (S1.1.2.2.2.2 = 0 → ∃ X g, S1.2 = S.2 ++ X ∧ EXl g X) → (lpf (rx u N f (lev + 1) d) u N lev S.2.length n S1).1.2.2.2.2 = 0 → ∃ X g, (lpf (rx u N f (lev + 1) d) u N lev S.2.length n S1).2 = S.2 ++ X ∧ EXl g X := by
        intro n
        induction n with
        | zero => intro S1 _ h1 hz; exact h1 hz
        | succ n ihn =>
          intro S1 g1 h1 hz
          by_cases hs : S1.1.2.2.1 = 4 ∧ lvl S1.1.2.2.2.1 = lev
          · rw [lpf_next hs] at hz ⊢
            have hf1 : S1.1.2.2.2.2 = 0 := Decidable.byContradiction (fun z => by have := g1.1.2.1 z; omega)
            obtain ⟨Y, gY, e1, x1⟩ := h1 hf1
            have hl1 := g1.2.2
            rw [if_pos hf1] at hl1
            have hi := ins_len (x := (7, S1.1.2.2.2.1)) g1.2.1
            have g2 := Gd.tk (u := u) (l := ins S1.2 S.2.length (7, S1.1.2.2.2.1)) g1.1 hl1 hf1 (by omega) (by omega)
            have g3 := rx_Gd (u := u) f (lev + 1) d (adv u N S1.1, ins S1.2 S.2.length (7, S1.1.2.2.2.1)) g2.1 g2.2.2
            have hle := g3.2.1
            have hle1 := g1.2.1
            simp only [] at hle
            refine ihn _ ⟨g3.1, by omega, g3.2.2⟩ (fun z => ?_) hz
            obtain ⟨Z, gZ, e2, x2⟩ := ih (lev + 1) d _ (by omega) (by omega) d0 d8 (by omega) g2.1 g2.2.2 z
            refine ⟨(7, S1.1.2.2.2.1) :: (Y ++ Z), max gY gZ + 1, ?_, Or.inr (Or.inr (Or.inr ⟨_, Y, Z, rfl, g1.1.2.2.2.2.1 hs.1, x1.mono (by omega), x2.mono (by omega)⟩))⟩
            rw [e2]
            simp only []
            rw [e1, ins_app, List.append_assoc]; rfl
          · rw [lpf_stop hs] at hz ⊢; exact h1 hz
      exact loop _ _ g1 (fun z => ih (lev + 1) d S (by omega) (by omega) d0 d8 (by omega) hS hl z) ha
    · have e3 : lev = 3 := by omega
      subst e3
      have hrx : rx u N (f + 1) 3 d S = (if ((S.1.2.2.1 = 5 ∧ S.1.2.2.2.1 = 40) ∨ (S.1.2.2.1 = 4 ∧ S.1.2.2.2.1 = 1)) ∧ 8 ≤ d then (refu S.1 2, S.2)
    else if S.1.2.2.1 = 5 ∧ S.1.2.2.2.1 = 40 then (exm u N 41 (rx u N f 0 (d + 1) (adv u N S.1, S.2)).1, (rx u N f 0 (d + 1) (adv u N S.1, S.2)).2)
    else if S.1.2.2.1 = 4 ∧ S.1.2.2.2.1 = 1 then rx u N f 3 (d + 1) (adv u N S.1, S.2 ++ [(6, 0)])
    else if S.1.2.2.1 = 3 then (adv u N S.1, S.2 ++ [(4, S.1.2.2.2.1)])
    else if ¬ vr u S.1 = -1 then (adv u N S.1, S.2 ++ [(5, vr u S.1)])
    else (refu S.1 1, S.2)) := by
        conv => lhs; unfold rx
        rw [if_neg (by decide)]
      rw [hrx] at ha ⊢
      clear hrx
      rw [if_pos h0] at hl
      have nofu : ∀ k : Int, 0 < k → ¬ (refu S.1 k).2.2.2.2 = 0 := fun k hk => by
        have := hS.1
        unfold refu; rw [if_pos h0]; simp only []; omega
      by_cases a : ((S.1.2.2.1 = 5 ∧ S.1.2.2.2.1 = 40) ∨ (S.1.2.2.1 = 4 ∧ S.1.2.2.2.1 = 1)) ∧ 8 ≤ d
      · rw [if_pos a] at ha; exact absurd ha (nofu 2 (by decide))
      rw [if_neg a] at ha ⊢
      by_cases b : S.1.2.2.1 = 5 ∧ S.1.2.2.2.1 = 40
      · rw [if_pos b] at ha ⊢
        have g1 := Gd.tk (u := u) (l := S.2) hS hl h0 (by omega) (by omega)
        refine ih 0 (d + 1) (adv u N S.1, S.2) (by decide) (by decide) (by omega) (by omega) (by omega) g1.1 g1.2.2 ?_
        exact Decidable.byContradiction (fun z => by
          simp only [] at ha
          rw [exm_dead z] at ha; exact z ha)
      rw [if_neg b] at ha ⊢
      by_cases c : S.1.2.2.1 = 4 ∧ S.1.2.2.2.1 = 1
      · rw [if_pos c] at ha ⊢
        have g1 := Gd.tk (u := u) (l := S.2 ++ [(6, 0)]) hS hl h0 (by omega) (by simp)
        obtain ⟨Y, g, e1, x1⟩ := ih 3 (d + 1) (adv u N S.1, S.2 ++ [(6, 0)]) (by decide) (by decide) (by omega) (by omega) (by omega) g1.1 g1.2.2 ha
        refine ⟨(6, 0) :: Y, g + 1, ?_, Or.inr (Or.inr (Or.inl ⟨Y, rfl, x1⟩))⟩
        rw [e1]; simp only []; rw [List.append_assoc]; rfl
      rw [if_neg c] at ha ⊢
      by_cases e : S.1.2.2.1 = 3
      · rw [if_pos e]
        exact ⟨[(4, S.1.2.2.2.1)], 1, rfl, Or.inl ⟨_, rfl, hS.2.2.2.1 e⟩⟩
      rw [if_neg e] at ha ⊢
      by_cases g : ¬ vr u S.1 = -1
      · rw [if_pos g]
        exact ⟨[(5, vr u S.1)], 1, rfl, Or.inr (Or.inl ⟨_, rfl, (vr_rng u S.1).resolve_left g⟩)⟩
      · rw [if_neg g] at ha; exact absurd ha (nofu 1 (by decide))

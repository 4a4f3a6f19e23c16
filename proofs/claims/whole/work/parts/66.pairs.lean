-- needs 30 31 32 33a 33b 33c 33d 33e 33f 33g 33h 33i 33j 40 41 42 43 44 45 46 50 51 52 53 54 56 57 60 61 63
/-! pairs of changes -/
theorem ord_surj {mr : Int → Int → Bool} {st : Int → Int} : ∀ (n : Nat) (i : Int), 0 ≤ i → i < n → ∃ j : Int, 0 ≤ j ∧ j < n ∧ ord mr st n j = st i := by
  intro n
  induction n with
  | zero => intro i i0 i1; omega
  | succ n ih =>
    intro i i0 i1
    have hle := plc_le (mr := mr) (f := ord mr st n) (x := st (n : Int)) n
    have hd : ∀ j, ord mr st (n + 1) j = (if j < (plc mr (ord mr st n) (st (n : Int)) n : Nat) then ord mr st n j else if j = (plc mr (ord mr st n) (st (n : Int)) n : Nat) then st (n : Int) else ord mr st n (j - 1)) := fun j => rfl
    by_cases e : i = n
    · subst e
      exact ⟨(plc mr (ord mr st n) (st (n : Int)) n : Nat), by omega, by omega, by rw [hd, if_neg (by omega), if_pos rfl]⟩
    · obtain ⟨j, j0, j1, ej⟩ := ih i i0 (by omega)
      by_cases q : j < (plc mr (ord mr st n) (st (n : Int)) n : Nat)
      · exact ⟨j, j0, by omega, by rw [hd, if_pos q]; exact ej⟩
      · exact ⟨j + 1, by omega, by omega, by rw [hd, if_neg (by omega), if_neg (by omega), show j + 1 - 1 = j by omega]; exact ej⟩
theorem rk_surj {P : Pg} (hW : WF P) {F : Fo} {T : Ts} {nT r s : Int} (hs : isSt P s) : ∃ i, 0 ≤ i ∧ i < P 2 16 ∧ rk P F T nT r i = s := by
  obtain ⟨-, -, ⟨m0, -, q⟩, -, -⟩ := hW.x
  have h1 := q s hs
  have h2 := (hW.t.1 s hs).2.2.2.1
  obtain ⟨j, j0, j1, e⟩ := ord_surj (mr := mrr P F T nT r) (st := P 14) (P 2 16).toNat (P 23 s) h2 (by omega)
  exact ⟨j, j0, by omega, by unfold rk; rw [e]; exact h1.2⟩
theorem app_nil {α : Type} {a b : List α} (h : a ++ b = []) : a = [] ∧ b = [] := List.append_eq_nil_iff.mp h
theorem mC_none {P : Pg} {F : Fo} {T : Ts} {nT n : Int} : ∀ k : Nat, mC P F T nT n k = [] → ∀ c : Nat, c < k → ¬ allP (pch P n (c : Int)) F T nT := by
  intro k
  induction k with
  | zero => intro _ c hc; omega
  | succ k ih =>
    intro h c hc
    by_cases ha : allP (pch P n (k : Int)) F T nT
    · rw [mC_yes ha] at h
      exact absurd (app_nil h).2 (by simp)
    · rw [mC_no ha] at h
      by_cases e : c = k
      · subst e; exact ha
      · exact ih h c (by omega)
theorem mN_none {P : Pg} {F : Fo} {T : Ts} {nT s : Int} : ∀ k : Nat, mN P F T nT s k = [] → ∀ j : Nat, j < k → mC P F T nT (s + j) (chg P (s + j)).toNat = [] := by
  intro k
  induction k with
  | zero => intro _ c hc; omega
  | succ k ih =>
    intro h j hj
    have h' : mN P F T nT s k ++ mC P F T nT (s + k) (chg P (s + k)).toNat = [] := h
    obtain ⟨a, b⟩ := app_nil h'
    by_cases e : j = k
    · subst e; exact b
    · exact ih a j (by omega)
theorem mS_none {P : Pg} {F : Fo} {T : Ts} {nT : Int} : ∀ k : Nat, mS P F T nT k = [] → ∀ i : Nat, i < k → mN P F T nT (rk P F T nT 1 (i : Int)) (P 9 (rk P F T nT 1 (i : Int)) + 1 - rk P F T nT 1 (i : Int)).toNat = [] := by
  intro k
  induction k with
  | zero => intro _ c hc; omega
  | succ k ih =>
    intro h j hj
    have h' : mS P F T nT k ++ mN P F T nT (rk P F T nT 1 (k : Int)) (P 9 (rk P F T nT 1 (k : Int)) + 1 - rk P F T nT 1 (k : Int)).toNat = [] := h
    obtain ⟨a, b⟩ := app_nil h'
    by_cases e : j = k
    · subst e; exact b
    · exact ih a j (by omega)
/-- no change mends alone -/
theorem no_mend {P : Pg} (hW : WF P) {F : Fo} {T : Ts} {nT : Int} (ha : ¬ allP P F T nT) (h : mL P F T nT = []) {n c : Int} (hn : 0 ≤ n ∧ n < P 2 15) (hc : 0 ≤ c ∧ c < chg P n) : ¬ allP (pch P n c) F T nT := by
  have hmL : mL P F T nT = mS P F T nT (P 2 16).toNat := if_neg ha
  rw [hmL] at h
  obtain ⟨-, xs, x1, x2, -, -⟩ := hW.x.1 n hn.1 hn.2
  obtain ⟨i, i0, i1, ei⟩ := rk_surj hW (F := F) (T := T) (nT := nT) (r := 1) xs
  have h1 := mS_none _ h i.toNat (by omega)
  rw [Int.toNat_of_nonneg i0, ei] at h1
  have h2 := mN_none _ h1 (n - P 7 n).toNat (by omega)
  rw [show P 7 n + (((n - P 7 n).toNat : Nat) : Int) = n by omega] at h2
  have h3 := mC_none _ h2 c.toNat (by omega)
  rw [Int.toNat_of_nonneg hc.1] at h3
  exact h3
/-- the program with two changes in it -/
def pc2 (P : Pg) (n c k d : Int) : Pg := pset (pch P n c) k (newv P k d) (newm P k d)
theorem ch4 {P : Pg} {n c k : Int} (hn : 0 ≤ n) (hk : 0 ≤ k) (h : k ≠ n) : (pch P n c) 4 k = P 4 k ∧ (pch P n c) 5 k = P 5 k := by
  unfold pch
  rw [pset4 hn hk, pset5 hn hk, if_neg h, if_neg h]; exact ⟨rfl, rfl⟩
theorem nv_ch {P : Pg} {n c k d : Int} (hn : 0 ≤ n) (hk : 0 ≤ k) (h : k ≠ n) : newv (pch P n c) k d = newv P k d ∧ newm (pch P n c) k d = newm P k d ∧ nch (pch P n c) k = nch P k := by
  obtain ⟨e4, e5⟩ := ch4 (P := P) (c := c) hn hk h
  have e3 : (pch P n c) 3 = P 3 := rfl
  have e2 : (pch P n c) 2 = P 2 := rfl
  refine ⟨?_, ?_, ?_⟩
  · unfold newv sgn; rw [e3, e2, e4]
  · unfold newm sgn; rw [e3, e4, e5]
  · unfold nch; rw [e3, e2, e4]
theorem pch_ch {P : Pg} {n c k d : Int} (hn : 0 ≤ n) (hk : 0 ≤ k) (h : k ≠ n) : pch (pch P n c) k d = pc2 P n c k d := by
  obtain ⟨a, b, -⟩ := nv_ch (P := P) (c := c) (d := d) hn hk h
  unfold pc2
  conv => lhs; unfold pch
  rw [show newv (pset P n (newv P n c) (newm P n c)) k d = newv P k d from a, show newm (pset P n (newv P n c) (newm P n c)) k d = newm P k d from b]
  rfl
theorem fput_comm {f : Int → Int} {i j v w : Int} (h : i.toNat ≠ j.toNat) : fput (fput f i v) j w = fput (fput f j w) i v := by
  funext x
  show (if x.toNat = j.toNat then w else (if x.toNat = i.toNat then v else f x)) = (if x.toNat = i.toNat then v else (if x.toNat = j.toNat then w else f x))
  by_cases a : x.toNat = j.toNat
  · rw [if_pos a, if_neg (by omega), if_pos a]
  · rw [if_neg a, if_neg a]
theorem pc2_comm {P : Pg} {n c k d : Int} (hn : 0 ≤ n) (hk : 0 ≤ k) (h : k ≠ n) : pc2 P n c k d = pset (pch P k d) n (newv P n c) (newm P n c) := by
  have hne : n.toNat ≠ k.toNat := by omega
  unfold pc2 pch
  funext a
  by_cases e4 : a = 4
  · subst e4
    show fput (fput (P 4) n (newv P n c)) k (newv P k d) = fput (fput (P 4) k (newv P k d)) n (newv P n c)
    exact fput_comm hne
  by_cases e5 : a = 5
  · subst e5
    show fput (fput (P 5) n (newm P n c)) k (newm P k d) = fput (fput (P 5) k (newm P k d)) n (newm P n c)
    exact fput_comm hne
  rw [pset_o e4 e5, pset_o e4 e5, pset_o e4 e5, pset_o e4 e5]
theorem WF.ch2 {P : Pg} (h : WF P) {n c k d : Int} (hn : 0 ≤ n ∧ n < P 2 15) (hc : 0 ≤ c ∧ c < nch P n) (hk : 0 ≤ k ∧ k < P 2 15) (hne : k ≠ n) (hd : 0 ≤ d ∧ d < nch P k) : WF (pc2 P n c k d) := by
  rw [← pch_ch hn.1 hk.1 hne]
  refine (h.ch hn hc).ch (show 0 ≤ k ∧ k < P 2 15 from hk) ?_
  rw [(nv_ch (d := d) hn.1 hk.1 hne).2.2]; exact hd
/-- what a run comes to is not left out, nor what is around it -/
theorem reach_NL {P : Pg} {F : Fo} (hW : WF P) : ∀ (n : Nat) (s : Int) (σ : Sg), (s = -1 ∨ (isSt P s ∧ NLa P s)) → ∀ x ∈ (flat P F n s σ).2.2.2.2.2.2, x ∈ σ.2.2.2.2.2 ∨ (¬ P 5 x = 1 ∧ NLa P x) := by
  intro n
  induction n with
  | zero => intro s σ _ x hx; exact Or.inl hx
  | succ n ih =>
    intro s σ hs x hx
    rcases hs with h | ⟨h1, h2⟩
    · rw [flat_no (by omega)] at hx; exact Or.inl hx
    · rw [flat_succ, if_pos (show 0 ≤ s ∧ s < P 2 15 ∧ P 3 s ≤ 3 from h1)] at hx
      by_cases h5 : P 5 s = 1
      · rw [if_pos h5] at hx
        exact ih _ _ ((NLa.after hW.s hW.t s.toNat s (Nat.le_refl _) h1 h2).imp_right (fun z => ⟨z.1, z.2.1⟩)) x hx
      · rw [if_neg h5] at hx
        rcases ih _ _ (fstep_NL hW.s hW.t h1 h5 h2) x hx with y | y
        · rw [fstep_rc] at y
          rcases List.mem_cons.mp y with y | y
          · subst y; exact Or.inr ⟨h5, h2⟩
          · exact Or.inl y
        · exact Or.inr y
theorem runP_NL {P : Pg} {F : Fo} (hW : WF P) (hp0 : 0 < P 2 15) {r : Int → Int} {x : Int} (hx : x ∈ (runP P F r).2.2.2.2.2) : ¬ P 5 x = 1 ∧ NLa P x := by
  obtain ⟨q1, q2⟩ := hW.t.2 hp0
  rcases reach_NL hW _ _ _ (Or.inr ⟨q1, NLa.of (Or.inl q2)⟩) x hx with h | h
  · exact absurd h (by simp [sg0])
  · exact h
theorem NL_mono {P P' : Pg} (hW : WF P) (h6 : P' 6 = P 6) (h5 : ∀ m, 0 ≤ m → P 5 m = 1 → P' 5 m = 1) : ∀ (f : Nat) (s : Int), isSt P s → NL P' f s → NL P f s := by
  intro f
  induction f with
  | zero => intro s _ _; trivial
  | succ f ih =>
    intro s hs h
    have h' : P' 6 s = -1 ∨ (¬ P' 5 (P' 6 s) = 1 ∧ NL P' f (P' 6 s)) := h
    rw [h6] at h'
    show P 6 s = -1 ∨ (¬ P 5 (P 6 s) = 1 ∧ NL P f (P 6 s))
    rcases h' with z | ⟨z1, z2⟩
    · exact Or.inl z
    · rcases (hW.t.1 s hs).1 with y | ⟨y1, -, -⟩
      · exact Or.inl y
      · exact Or.inr ⟨fun w => z1 (h5 _ y1.1 w), ih _ y1 z2⟩
theorem gone_mono {P : Pg} (hW : WF P) {n c k : Int} (hn : 0 ≤ n ∧ n < P 2 15) (hg : ¬ gone P n) (hk : 0 ≤ k ∧ k < P 2 15) (h : gone P k) : gone (pch P n c) k := by
  obtain ⟨-, xs, -⟩ := hW.x.1 k hk.1 hk.2
  have h5 : ∀ m, 0 ≤ m → P 5 m = 1 → (pch P n c) 5 m = 1 := by
    intro m m0 hm
    have e : m ≠ n := fun z => hg (Or.inl (by rw [← z]; exact hm))
    rw [(ch4 hn.1 m0 e).2]; exact hm
  rcases h with h | h | h
  · exact Or.inl (h5 k hk.1 h)
  · exact Or.inr (Or.inl (h5 _ xs.1 h))
  · exact Or.inr (Or.inr (fun z => h (fun f => NL_mono (P' := pch P n c) hW rfl h5 f _ xs (z f))))
/-- of two changes the second is of no use where the first leaves it out -/
theorem gone_pair {P : Pg} (hW : WF P) {F : Fo} {T : Ts} {nT n c k d : Int} (hn : 0 ≤ n ∧ n < P 2 15) (hc : 0 ≤ c ∧ c < nch P n) (hk : 0 ≤ k ∧ k < P 2 15) (hne : k ≠ n) (hgk : ¬ gone P k) (hg1 : gone (pch P n c) k) (hno : ¬ allP (pch P n c) F T nT) : ¬ allP (pc2 P n c k d) F T nT := by
  have hW1 := hW.ch hn hc
  have p0 : 0 < P 2 15 := by omega
  obtain ⟨-, xs, -⟩ := hW.x.1 k hk.1 hk.2
  have xs0 : 0 ≤ P 7 k := xs.1
  obtain ⟨e4, e5⟩ := ch4 (P := P) (c := c) hn.1 hk.1 hne
  have n5 : ¬ (pch P n c) 5 k = 1 := fun z => hgk (Or.inl (by rw [← e5]; exact z))
  have hd : Dif (P 7 k) (pch P n c) (pc2 P n c k d) := Dif.set (P := pch P n c) hk.1
  intro ha
  apply hno
  intro t t0 t1 h4
  have h1 := ha t t0 t1 h4
  unfold okT at h1 ⊢
  rw [runP_prune hW1 hd ?_ ?_] at h1
  · exact h1
  · intro z
    by_cases e : P 7 k = k
    · rw [e] at z; exact absurd z n5
    · show (pset (pch P n c) k (newv P k d) (newm P k d)) 5 (P 7 k) = 1
      rw [pset5 hk.1 xs0, if_neg e]; exact z
  · intro hx
    obtain ⟨a, b⟩ := runP_NL hW1 p0 hx
    rcases hg1 with g | g | g
    · exact n5 g
    · exact a g
    · exact g b
/-- the first that is found -/
def o1 {α : Type} (q : Int → Option α) : Nat → Option α
  | 0 => none
  | m + 1 => match o1 q m with
    | some x => some x
    | none => q (m : Int)
theorem o1_none {α : Type} {q : Int → Option α} : ∀ m : Nat, o1 q m = none ↔ ∀ i : Int, 0 ≤ i → i < m → q i = none := by
  intro m
  induction m with
  | zero => exact ⟨fun _ i i0 i1 => by omega, fun _ => rfl⟩
  | succ m ih =>
    constructor
    · intro h i i0 i1
      have h' : (match o1 q m with | some x => some x | none => q (m : Int)) = none := h
      cases e : o1 q m with
      | some x => rw [e] at h'; simp at h'
      | none =>
        rw [e] at h'
        by_cases w : i = m
        · subst w; exact h'
        · exact ih.mp e i i0 (by omega)
    · intro h
      show (match o1 q m with | some x => some x | none => q (m : Int)) = none
      rw [ih.mpr (fun i i0 i1 => h i i0 (by omega))]
      exact h m (by omega) (by omega)
theorem o1_some {α : Type} {q : Int → Option α} {x : α} : ∀ (m : Nat) (i : Int), 0 ≤ i → i < m → (∀ j, 0 ≤ j → j < i → q j = none) → q i = some x → o1 q m = some x := by
  intro m
  induction m with
  | zero => intro i i0 i1; omega
  | succ m ih =>
    intro i i0 i1 h hx
    show (match o1 q m with | some x => some x | none => q (m : Int)) = some x
    by_cases w : i = m
    · subst w
      rw [(o1_none m).mpr (fun j j0 j1 => h j j0 j1)]
      exact hx
    · rw [ih i i0 (by omega) h hx]
/-- the statements among which pairs are sought -/
def Susp (P : Pg) (F : Fo) (T : Ts) (nT s : Int) : Prop := ∃ i, 0 ≤ i ∧ i < 6 ∧ i < P 2 16 ∧ rk P F T nT 1 i = s
noncomputable def f4 (P : Pg) (F : Fo) (T : Ts) (nT n c k d : Int) : Option (Int × Int × Int × Int) := @ite _ (allP (pc2 P n c k d) F T nT) (Classical.propDecidable _) (some (n, c, k, d)) none
noncomputable def f3 (P : Pg) (F : Fo) (T : Ts) (nT n c k : Int) : Option (Int × Int × Int × Int) := @ite _ (n < k ∧ Susp P F T nT (P 7 k)) (Classical.propDecidable _) (o1 (f4 P F T nT n c k) (chg P k).toNat) none
noncomputable def f2 (P : Pg) (F : Fo) (T : Ts) (nT n c : Int) : Option (Int × Int × Int × Int) := o1 (f3 P F T nT n c) (P 2 15).toNat
noncomputable def f1 (P : Pg) (F : Fo) (T : Ts) (nT n : Int) : Option (Int × Int × Int × Int) := @ite _ (Susp P F T nT (P 7 n)) (Classical.propDecidable _) (o1 (f2 P F T nT n) (chg P n).toNat) none
noncomputable def f0 (P : Pg) (F : Fo) (T : Ts) (nT : Int) : Option (Int × Int × Int × Int) := o1 (f1 P F T nT) (P 2 15).toNat
/-- the pair -/
noncomputable def prP (P : Pg) (F : Fo) (T : Ts) (nT : Int) : Option (Int × Int × Int × Int) := @ite _ (allP P F T nT ∨ ¬ mL P F T nT = []) (Classical.propDecidable _) none (f0 P F T nT)
theorem prP_0 {P : Pg} {F : Fo} {T : Ts} {nT : Int} (hz : P 2 15 = 0) : prP P F T nT = none := by
  unfold prP f0
  rw [hz]
  by_cases h : allP P F T nT ∨ ¬ mL P F T nT = []
  · rw [if_pos h]
  · rw [if_neg h]; rfl

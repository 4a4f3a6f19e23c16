-- needs 30 31 32 33a 33b 33c 33d 33e 33f 33g 33h 33i 33j 40 41 42 43 44 45 46 50 51 52 53 54 56 57 60
/-! the mends, in their order; how the class finds them -/
noncomputable def mC (P : Pg) (F : Fo) (T : Ts) (nT n : Int) : Nat → List (Int × Int)
  | 0 => []
  | k + 1 => mC P F T nT n k ++ @ite (List (Int × Int)) (allP (pch P n (k : Int)) F T nT) (Classical.propDecidable _) [(n, (k : Int))] []
noncomputable def mN (P : Pg) (F : Fo) (T : Ts) (nT s : Int) : Nat → List (Int × Int)
  | 0 => []
  | k + 1 => mN P F T nT s k ++ mC P F T nT (s + k) (chg P (s + k)).toNat
noncomputable def mS (P : Pg) (F : Fo) (T : Ts) (nT : Int) : Nat → List (Int × Int)
  | 0 => []
  | i + 1 => mS P F T nT i ++ mN P F T nT (rk P F T nT 1 (i : Int)) (P 9 (rk P F T nT 1 (i : Int)) + 1 - rk P F T nT 1 (i : Int)).toNat
noncomputable def mL (P : Pg) (F : Fo) (T : Ts) (nT : Int) : List (Int × Int) := @ite (List (Int × Int)) (allP P F T nT) (Classical.propDecidable _) [] (mS P F T nT (P 2 16).toNat)
theorem mC_yes {P : Pg} {F : Fo} {T : Ts} {nT n : Int} {k : Nat} (h : allP (pch P n (k : Int)) F T nT) : mC P F T nT n (k + 1) = mC P F T nT n k ++ [(n, (k : Int))] := by
  show _ ++ @ite (List (Int × Int)) _ (Classical.propDecidable _) _ _ = _
  rw [if_pos h]
theorem mC_no {P : Pg} {F : Fo} {T : Ts} {nT n : Int} {k : Nat} (h : ¬ allP (pch P n (k : Int)) F T nT) : mC P F T nT n (k + 1) = mC P F T nT n k := by
  show _ ++ @ite (List (Int × Int)) _ (Classical.propDecidable _) _ _ = _
  rw [if_neg h, List.append_nil]
theorem mC_len {P : Pg} {F : Fo} {T : Ts} {nT n : Int} : ∀ k : Nat, (mC P F T nT n k).length ≤ k := by
  intro k
  induction k with
  | zero => exact Nat.le_refl _
  | succ k ih =>
    by_cases h : allP (pch P n (k : Int)) F T nT
    · rw [mC_yes h, List.length_append]; simp only [List.length_singleton]; omega
    · rw [mC_no h]; omega
theorem mC_mono {P : Pg} {F : Fo} {T : Ts} {nT n : Int} {k k' : Nat} (h : k ≤ k') : (mC P F T nT n k).length ≤ (mC P F T nT n k').length := by
  induction k' with
  | zero => have : k = 0 := by omega
            subst this; exact Nat.le_refl _
  | succ m ih =>
    by_cases e : k = m + 1
    · subst e; exact Nat.le_refl _
    · have := ih (by omega)
      show _ ≤ (mC P F T nT n m ++ _).length
      rw [List.length_append]; omega
theorem mN_mono {P : Pg} {F : Fo} {T : Ts} {nT s : Int} {k k' : Nat} (h : k ≤ k') : (mN P F T nT s k).length ≤ (mN P F T nT s k').length := by
  induction k' with
  | zero => have : k = 0 := by omega
            subst this; exact Nat.le_refl _
  | succ m ih =>
    by_cases e : k = m + 1
    · subst e; exact Nat.le_refl _
    · have := ih (by omega)
      show _ ≤ (mN P F T nT s m ++ _).length
      rw [List.length_append]; omega
theorem mS_mono {P : Pg} {F : Fo} {T : Ts} {nT : Int} {k k' : Nat} (h : k ≤ k') : (mS P F T nT k).length ≤ (mS P F T nT k').length := by
  induction k' with
  | zero => have : k = 0 := by omega
            subst this; exact Nat.le_refl _
  | succ m ih =>
    by_cases e : k = m + 1
    · subst e; exact Nat.le_refl _
    · have := ih (by omega)
      show _ ≤ (mS P F T nT m ++ _).length
      rw [List.length_append]; omega
theorem mN_len {P : Pg} {F : Fo} {T : Ts} {nT s : Int} : ∀ k : Nat, (mN P F T nT s k).length ≤ 8 * k := by
  intro k
  induction k with
  | zero => exact Nat.le_refl _
  | succ k ih =>
    show (mN P F T nT s k ++ mC P F T nT (s + k) (chg P (s + k)).toNat).length ≤ _
    rw [List.length_append]
    have h1 := mC_len (P := P) (F := F) (T := T) (nT := nT) (n := s + k) (chg P (s + k)).toNat
    have h2 := chg_le (P := P) (n := s + k)
    omega
/-- sums over a row -/
def su (g : Int → Int) : Nat → Int
  | 0 => 0
  | n + 1 => su g n + g (n : Int)
theorem su_congr {g h : Int → Int} : ∀ n : Nat, (∀ j, 0 ≤ j → j < (n : Int) → g j = h j) → su g n = su h n := by
  intro n
  induction n with
  | zero => intro _; rfl
  | succ n ih => intro hj; show su g n + g n = su h n + h n; rw [ih (fun j j0 j1 => hj j j0 (by omega)), hj n (by omega) (by omega)]
theorem su_ins {f g : Int → Int} {x : Int} {k : Nat} (h1 : ∀ j, 0 ≤ j → j < (k : Int) → g j = f j) (h2 : g (k : Int) = x) : ∀ n : Nat, k ≤ n → (∀ j, (k : Int) < j → j ≤ (n : Int) → g j = f (j - 1)) → su g (n + 1) = su f n + x := by
  intro n
  induction n with
  | zero =>
    intro hk _
    have : k = 0 := by omega
    subst this
    show su g 0 + g ((0 : Nat) : Int) = su f 0 + x
    rw [h2]; rfl
  | succ n ih =>
    intro hk h3
    by_cases e : k = n + 1
    · subst e
      show su g (n + 1) + g ((n + 1 : Nat) : Int) = su f (n + 1) + x
      rw [h2, su_congr (n + 1) h1]
    · have := ih (by omega) (fun j j0 j1 => h3 j j0 (by omega))
      show su g (n + 1) + g ((n + 1 : Nat) : Int) = (su f n + f (n : Int)) + x
      rw [this, h3 _ (by omega) (by omega), show (((n + 1 : Nat) : Int) - 1) = (n : Int) by omega]
      omega
theorem su_ord {mr : Int → Int → Bool} {st : Int → Int} {w : Int → Int} : ∀ n : Nat, su (fun j => w (ord mr st n j)) n = su (fun j => w (st j)) n := by
  intro n
  induction n with
  | zero => rfl
  | succ n ih =>
    have hle := plc_le (mr := mr) (f := ord mr st n) (x := st (n : Int)) n
    have hd : ∀ j, ord mr st (n + 1) j = (if j < (plc mr (ord mr st n) (st (n : Int)) n : Nat) then ord mr st n j else if j = (plc mr (ord mr st n) (st (n : Int)) n : Nat) then st (n : Int) else ord mr st n (j - 1)) := fun j => rfl
    rw [su_ins (f := fun j => w (ord mr st n j)) (x := w (st (n : Int))) (k := plc mr (ord mr st n) (st (n : Int)) n) ?_ ?_ n hle ?_, ih]
    · rfl
    · intro j j0 j1
      show w (ord mr st (n + 1) j) = _
      rw [hd, if_pos j1]
    · show w (ord mr st (n + 1) _) = _
      rw [hd, if_neg (by omega), if_pos rfl]
    · intro j j0 j1
      show w (ord mr st (n + 1) j) = _
      rw [hd, if_neg (by omega), if_neg (by omega)]
theorem rk_st {P : Pg} (hW : WF P) {F : Fo} {T : Ts} {nT r i : Int} (i0 : 0 ≤ i) (i1 : i < P 2 16) : isSt P (rk P F T nT r i) := by
  obtain ⟨-, -, ⟨m0, -, -⟩, hst, -⟩ := hW.x
  obtain ⟨j, j0, j1, e⟩ := ord_mem (mr := mrr P F T nT r) (st := P 14) (P 2 16).toNat i i0 (by omega)
  unfold rk
  rw [e]; exact (hst j j0 (by omega)).1
theorem next_st {P : Pg} (hW : WF P) {s s' : Int} (hs : isSt P s) (hs' : isSt P s') (h : s < s') : P 9 s < s' := by
  by_cases e : P 9 s < s'
  · exact e
  · have h1 := hW.x.2.1 s s' hs (by omega) (by omega)
    obtain ⟨-, -, -, -, xo, -⟩ := hW.x.1 s' hs'.1 hs'.2.1
    have := xo hs'.2.2
    omega
theorem su_nodes {P : Pg} (hW : WF P) : ∀ m : Nat, (m : Int) < P 2 16 → su (fun j => P 9 (P 14 j) + 1 - P 14 j) (m + 1) ≤ P 9 (P 14 (m : Int)) + 1 := by
  obtain ⟨-, -, ⟨-, -, -⟩, hst, -⟩ := hW.x
  intro m
  induction m with
  | zero =>
    intro hm
    have h := (hst 0 (by decide) hm).1.1
    show (0 : Int) + (P 9 (P 14 ((0 : Nat) : Int)) + 1 - P 14 ((0 : Nat) : Int)) ≤ P 9 (P 14 ((0 : Nat) : Int)) + 1
    have h' : 0 ≤ P 14 ((0 : Nat) : Int) := h
    omega
  | succ m ih =>
    intro hm
    have h1 := ih (by omega)
    have a1 := hst m (by omega) (by omega)
    have a2 := hst ((m + 1 : Nat) : Int) (by omega) hm
    have hlt : P 14 (m : Int) < P 14 ((m + 1 : Nat) : Int) := by
      by_cases e : P 14 (m : Int) < P 14 ((m + 1 : Nat) : Int)
      · exact e
      · by_cases e2 : P 14 (m : Int) = P 14 ((m + 1 : Nat) : Int)
        · rw [e2] at a1; omega
        · have := (hW.t.1 _ a2.1).2.2.2.2.2 _ a1.1 (by omega)
          omega
    have h2 := next_st hW a1.1 a2.1 hlt
    show su (fun j => P 9 (P 14 j) + 1 - P 14 j) (m + 1) + (P 9 (P 14 ((m + 1 : Nat) : Int)) + 1 - P 14 ((m + 1 : Nat) : Int)) ≤ _
    omega
theorem mS_len {P : Pg} (hW : WF P) {F : Fo} {T : Ts} {nT : Int} : (mS P F T nT (P 2 16).toNat).length ≤ 480 := by
  obtain ⟨-, -, ⟨m0, -, -⟩, hst, -⟩ := hW.x
  have h60 := hW.le
  have h1 : ∀ n : Nat, (n : Int) ≤ P 2 16 → ((mS P F T nT n).length : Int) ≤ 8 * su (fun j => P 9 (rk P F T nT 1 j) + 1 - rk P F T nT 1 j) n := by
    intro n
    induction n with
    | zero => intro _; exact Int.le_refl _
    | succ n ih =>
      intro hn
      have hs := rk_st hW (F := F) (T := T) (nT := nT) (r := 1) (i := (n : Int)) (by omega) (by omega)
      obtain ⟨f, hE, -⟩ := hW.r.2.1 _ hs.1 hs.2.1 hs.2.2
      have hle := hE.le
      have h2 := mN_len (P := P) (F := F) (T := T) (nT := nT) (s := rk P F T nT 1 (n : Int)) (P 9 (rk P F T nT 1 (n : Int)) + 1 - rk P F T nT 1 (n : Int)).toNat
      have h3 := ih (by omega)
      show ((mS P F T nT n ++ mN P F T nT (rk P F T nT 1 (n : Int)) (P 9 (rk P F T nT 1 (n : Int)) + 1 - rk P F T nT 1 (n : Int)).toNat).length : Int) ≤ 8 * (su (fun j => P 9 (rk P F T nT 1 j) + 1 - rk P F T nT 1 j) n + (P 9 (rk P F T nT 1 (n : Int)) + 1 - rk P F T nT 1 (n : Int)))
      rw [List.length_append]
      omega
  have h2 := h1 (P 2 16).toNat (by omega)
  have h3 : su (fun j => P 9 (rk P F T nT 1 j) + 1 - rk P F T nT 1 j) (P 2 16).toNat = su (fun j => P 9 (P 14 j) + 1 - P 14 j) (P 2 16).toNat := su_ord (mr := mrr P F T nT 1) (st := P 14) (w := fun s => P 9 s + 1 - s) (P 2 16).toNat
  rw [h3] at h2
  by_cases e : P 2 16 = 0
  · rw [e] at h2 ⊢
    exact Nat.zero_le _
  · obtain ⟨m, hm⟩ : ∃ m : Nat, (P 2 16).toNat = m + 1 := ⟨(P 2 16).toNat - 1, by omega⟩
    have h4 := su_nodes hW m (by omega)
    have h5 := (hst m (by omega) (by omega)).1
    obtain ⟨f, -, hl⟩ := hW.r.2.1 _ h5.1 h5.2.1 h5.2.2
    rw [hm] at h2 ⊢
    omega
/-- the first that is so -/
noncomputable def fs (p : Nat → Prop) : Nat → Nat
  | 0 => 0
  | n + 1 => @ite Nat (p 0) (Classical.propDecidable _) 0 (fs (fun k => p (k + 1)) n + 1)
theorem fs_eq : ∀ (n k : Nat) (p : Nat → Prop), k ≤ n → (∀ j, j < k → ¬ p j) → (k < n → p k) → fs p n = k := by
  intro n
  induction n with
  | zero => intro k p hk _ _; show 0 = k; omega
  | succ n ih =>
    intro k p hk h1 h2
    show @ite Nat (p 0) (Classical.propDecidable _) 0 (fs (fun k => p (k + 1)) n + 1) = k
    cases k with
    | zero => rw [if_pos (h2 (by omega))]
    | succ k => rw [if_neg (h1 0 (by omega)), ih k (fun k => p (k + 1)) (by omega) (fun j hj => h1 (j + 1) (by omega)) (fun z => h2 (by omega))]
theorem fs_ex : ∀ (n : Nat) (p : Nat → Prop), fs p n ≤ n ∧ (∀ j, j < fs p n → ¬ p j) ∧ (fs p n < n → p (fs p n)) := by
  intro n
  induction n with
  | zero => intro p; exact ⟨Nat.le_refl _, fun j hj => absurd hj (Nat.not_lt_zero j), fun h => absurd h (Nat.lt_irrefl _)⟩
  | succ n ih =>
    intro p
    have hd : fs p (n + 1) = @ite Nat (p 0) (Classical.propDecidable _) 0 (fs (fun k => p (k + 1)) n + 1) := rfl
    by_cases h : p 0
    · rw [if_pos h] at hd
      rw [hd]; exact ⟨Nat.zero_le _, fun j hj => absurd hj (Nat.not_lt_zero j), fun _ => h⟩
    · rw [if_neg h] at hd
      obtain ⟨a, b, c⟩ := ih (fun k => p (k + 1))
      rw [hd]
      refine ⟨by omega, fun j hj => ?_, fun hl => c (by omega)⟩
      cases j with
      | zero => exact h
      | succ j => exact b j (by omega)
theorem fs_congr {n : Nat} {p q : Nat → Prop} (h : ∀ j, j < n → (p j ↔ q j)) : fs p n = fs q n := by
  obtain ⟨a, b, c⟩ := fs_ex n q
  exact fs_eq n _ p a (fun j hj z => b j hj ((h j (by omega)).mp z)) (fun hl => (h _ hl).mpr (c hl))
/-- two mends by which all tests end alike -/
def alk (P : Pg) (F : Fo) (T : Ts) (nT : Int) (x y : Int × Int) : Prop := ∀ t, 0 ≤ t → t < nT → (runP (pch P x.1 x.2) F (T t)).2.2.1 = (runP (pch P y.1 y.2) F (T t)).2.2.1 ∧ (runP (pch P x.1 x.2) F (T t)).2.2.2.1 = (runP (pch P y.1 y.2) F (T t)).2.2.2.1
noncomputable def fal (P : Pg) (F : Fo) (T : Ts) (nT : Int) (acc : List (Int × Int)) (i : Nat) : Nat := fs (fun j => alk P F T nT (acc.getD j (0, 0)) (acc.getD i (0, 0))) i
noncomputable def hcn (P : Pg) (F : Fo) (T : Ts) (nT : Int) (x : Int × Int) : Int := cn (psB (pch P x.1 x.2) F T 1) nT.toNat
theorem getD_app {acc : List (Int × Int)} {x : Int × Int} {i : Nat} (h : i < acc.length) : (acc ++ [x]).getD i (0, 0) = acc.getD i (0, 0) := by
  rw [List.getD_eq_getElem?_getD, List.getD_eq_getElem?_getD, List.getElem?_append_left h]
theorem getD_end {acc : List (Int × Int)} {x : Int × Int} : (acc ++ [x]).getD acc.length (0, 0) = x := by
  rw [List.getD_eq_getElem?_getD, List.getElem?_append_right (Nat.le_refl _), Nat.sub_self]; rfl
theorem fal_app {P : Pg} {F : Fo} {T : Ts} {nT : Int} {acc : List (Int × Int)} {x : Int × Int} {i : Nat} (h : i < acc.length) : fal P F T nT (acc ++ [x]) i = fal P F T nT acc i := by
  unfold fal
  refine fs_congr (fun j hj => ?_)
  rw [getD_app h, getD_app (by omega)]
/-- tests of numbers of 32 bits -/
def TI (T : Ts) (nT : Int) : Prop := ∀ t j, 0 ≤ t → t < nT → 0 ≤ j → j < 5 → i32 (T t j)
/-- what the class holds of the mends found -/
def MI (P : Pg) (F : Fo) (T : Ts) (nT : Int) (acc : List (Int × Int)) (M : pm_M) : Prop := gI M 132 10 = (acc.length : Int) ∧ ∀ i : Nat, i < acc.length → gI M 133 (i : Int) = (acc.getD i (0, 0)).1 ∧ gI M 134 (i : Int) = (acc.getD i (0, 0)).2 ∧ gI M 135 (i : Int) = hcn P F T nT (acc.getD i (0, 0)) ∧ gI M 136 (i : Int) = (fal P F T nT acc i : Int) ∧ WF (pch P (acc.getD i (0, 0)).1 (acc.getD i (0, 0)).2) ∧ ∀ t, 0 ≤ t → t < nT → gI M 137 (16 * (i : Int) + t) = enl (runP (pch P (acc.getD i (0, 0)).1 (acc.getD i (0, 0)).2) F (T t)).2.2.1 (runP (pch P (acc.getD i (0, 0)).1 (acc.getD i (0, 0)).2) F (T t)).2.2.2.1
def pKeep (a i : Nat) : Bool := pTry a i || a == 133 || a == 134 || a == 135 || a == 136 || a == 137 || (a == 132 && i == 10)
theorem MI.fr {P : Pg} {F : Fo} {T : Ts} {nT : Int} {acc : List (Int × Int)} {M M' : pm_M} {p : Nat → Nat → Bool} (h : MI P F T nT acc M) (f : Fr p M M') (h0 : p 132 10 = false) (h1 : ∀ a i, 133 ≤ a → a ≤ 137 → p a i = false) : MI P F T nT acc M' := by
  unfold MI
  rw [f.g h0, f.c (fun i => h1 133 i (by decide) (by decide)), f.c (fun i => h1 134 i (by decide) (by decide)), f.c (fun i => h1 135 i (by decide) (by decide)), f.c (fun i => h1 136 i (by decide) (by decide)), f.c (fun i => h1 137 i (by decide) (by decide))]
  exact h

-- needs 30 31 32 33a 33b 33c 33d 33e 33f 33g 33h 33i 33j 40 41 42 43 44 45 46 50 51 52 53 54
/-! the reference asks for changes, puts them in, takes them out -/
def NM (P : Pg) (n k nv nm b : Int) : Prop := ((P 3 n = 0 ∨ P 3 n = 4 ∨ P 3 n = 5 ∨ P 3 n = 7) → nv = newv P n k) ∧ ((P 3 n = 7 → nm = 0 ∨ nm = 4) ∧ (P 3 n ≠ 7 → 0 ≤ nm ∧ nm < 4) ∧ newm P n k = cm nm) ∧ (if nm = b then nv else -100) = mks P n k
theorem asks_r {P : Pg} {M : pm_M} {K : Int → pm_M → Prop} {n k : Int} (hW : WF P) (hR : RP P M) (hV : gI M 142 22 = P 2 18) (hn : 0 ≤ n ∧ n < P 2 15) (hk : k < 2147483648)
    (h0 : ¬ (0 ≤ k ∧ k < chg P n) → ∀ M', Fr qAsk M M' → K 0 M') (h1 : 0 ≤ k → k < chg P n → ∀ M', Fr qAsk M M' → NM P n k (gI M' 142 45) (gI M' 142 46) (gI M 153 n) → K 1 M') : k12_asks n k M K := by
  have h60 := hW.le
  obtain ⟨q3, q4, ⟨q7, q7', q5⟩, -, -, -, -⟩ := hR.2.2 n hn.1 hn.2
  obtain ⟨⟨x0, x7⟩, -⟩ := hW.x.1 n hn.1 hn.2
  apply k12_asks_r
  refine ⟨⟨hn.1, by omega⟩, ⟨hn.1, by omega⟩, ?_⟩
  generalize hM1 : upI (upI M 142 45 (gI M 146 n)) 142 46 (gI M 153 n) = M1
  have f1 : Fr qAsk M M1 := by rw [← hM1]; exact (Fr.rf.up _ rfl).up _ rfl
  have e45 : gI M1 142 45 = gI M 146 n := by rw [← hM1, gI_nf _ _ (by decide), gI_eq]
  have e46 : gI M1 142 46 = gI M 153 n := by rw [← hM1, gI_eq]
  clear hM1
  by_cases hk0 : k < 0
  · rw [if_pos hk0]; exact h0 (by omega) M1 f1
  rw [if_neg hk0]
  have hR1 : RP P M1 := f1.rp hR (fun a i a1 a2 => by simp [qAsk]; omega)
  refine risGone_r h60 hR1 hW.t hW.x hn ?_ ?_
  · intro hg
    rw [if_neg (by decide)]
    exact h0 (by rw [chg_gone hg]; omega) M1 f1
  intro hg
  rw [if_pos rfl]
  rw [chg_not hg] at h0 h1
  have n1 : ¬ P 5 n = 1 := fun z => hg (Or.inl z)
  have g145 : gI M1 145 n = P 3 n := (hR1.2.2 n hn.1 hn.2).1
  have g153 : gI M1 153 n = gI M 153 n := f1.g rfl
  have g146 : gI M1 146 n = gI M 146 n := f1.g rfl
  rw [g145, g153, g146]
  have bit : pm_iand (gI M 153 n) 1 ≤ 0 := by
    by_cases z : pm_iand (gI M 153 n) 1 ≤ 0
    · exact z
    · exact absurd (by rw [q5, cm_1]; exact z) n1
  have b02 : P 3 n ≠ 7 → gI M 153 n = 0 ∨ gI M 153 n = 2 := by
    intro z
    have := q7' z
    have hb4 : gI M 153 n = 0 ∨ gI M 153 n = 1 ∨ gI M 153 n = 2 ∨ gI M 153 n = 3 := by omega
    rcases hb4 with y | y | y | y
    · exact Or.inl y
    · rw [y] at bit; exact absurd bit (by decide)
    · exact Or.inr y
    · rw [y] at bit; exact absurd bit (by decide)
  -- a mark put in
  have mk1 : ∀ m, P 3 n = 0 ∨ P 3 n = 1 ∨ P 3 n = 2 ∨ P 3 n = 3 ∨ P 3 n = 6 → (0 ≤ m ∧ m < 4) → m ≠ gI M 153 n → newm P n k = cm m → 0 ≤ k → k < nch P n → K 1 (upI M1 142 46 m) := by
    intro m hk3 hm hne hnm k0 k1
    refine h1 k0 k1 _ (f1.up _ rfl) ?_
    rw [gI_nf _ _ (by decide), gI_eq, e45]
    refine ⟨?_, ⟨fun z => by omega, fun _ => hm, hnm⟩, ?_⟩
    · intro z
      have e0 : P 3 n = 0 := by omega
      have hv : newv P n k = P 4 n := by unfold newv; rw [if_neg (by omega), if_neg (by omega), if_neg (by omega)]
      rw [hv]; exact q4 (Or.inl e0)
    · rw [if_neg hne]; unfold mks; rw [if_neg (by omega), if_neg (by omega)]
  have mk0 : ∀ m, ¬ (0 ≤ k ∧ k < nch P n) → K 0 (upI M1 142 46 m) := fun m hno => h0 hno _ (f1.up _ rfl)
  -- a value put in
  have vk1 : ∀ v, P 3 n = 4 ∨ P 3 n = 5 → newv P n k = v → 0 ≤ k → k < nch P n → K 1 (upI M1 142 45 v) := by
    intro v hk3 hv k0 k1
    refine h1 k0 k1 _ (f1.up _ rfl) ?_
    rw [gI_eq, gI_nf _ _ (by decide), e46]
    refine ⟨fun _ => hv.symm, ⟨fun z => by omega, q7', ?_⟩, ?_⟩
    · unfold newm; rw [if_pos hk3]; exact q5
    · rw [if_pos rfl]; unfold mks; rw [if_pos hk3]; exact hv.symm
  have vk0 : ∀ v, ¬ (0 ≤ k ∧ k < nch P n) → K 0 (upI M1 142 45 v) := fun v hno => h0 hno _ (f1.up _ rfl)
  -- a condition
  have cond : P 3 n = 1 ∨ P 3 n = 2 → (if k = 0 then (if k < 2 then K 1 (upI M1 142 46 (pm_ixor (gI M 153 n) 2)) else K 0 (upI M1 142 46 (pm_ixor (gI M 153 n) 2))) else (if k < 2 then K 1 (upI M1 142 46 (pm_ior (gI M 153 n) 1)) else K 0 (upI M1 142 46 (pm_ior (gI M 153 n) 1)))) := by
    intro e
    have hnch : nch P n = 2 := by unfold nch; rw [if_pos e]
    have hm : newm P n k = (if k = 1 then 1 else if P 5 n = 2 then 0 else 2) := by unfold newm; rw [if_neg (by omega), if_neg (by omega), if_pos e]
    have hb := b02 (by omega)
    by_cases z : k = 0
    · rw [if_pos z, if_pos (by omega)]
      rw [if_neg (by omega)] at hm
      rcases hb with y | y
      · rw [y] at q5 ⊢
        refine mk1 _ (by omega) (by decide) (by rw [y]; decide) ?_ (by omega) (by omega)
        rw [hm, q5]; decide
      · rw [y] at q5 ⊢
        refine mk1 _ (by omega) (by decide) (by rw [y]; decide) ?_ (by omega) (by omega)
        rw [hm, q5]; decide
    · rw [if_neg z]
      by_cases y : k < 2
      · rw [if_pos y]
        rw [if_pos (by omega)] at hm
        rcases hb with w | w
        · rw [w]
          refine mk1 _ (by omega) (by decide) (by rw [w]; decide) ?_ (by omega) (by omega)
          rw [hm]; decide
        · rw [w]
          refine mk1 _ (by omega) (by decide) (by rw [w]; decide) ?_ (by omega) (by omega)
          rw [hm]; decide
      · rw [if_neg y]; exact mk0 _ (by omega)
  -- what can be left out alone
  have out : P 3 n = 0 ∨ P 3 n = 3 ∨ P 3 n = 6 → (if k = 0 then K 1 (upI M1 142 46 (pm_ior (gI M 153 n) 1)) else K 0 (upI M1 142 46 (pm_ior (gI M 153 n) 1))) := by
    intro e
    have hnch : nch P n = 1 := by unfold nch; rw [if_neg (by omega), if_neg (by omega), if_neg (by omega), if_neg (by omega)]
    have hm : newm P n k = 1 := by unfold newm; rw [if_neg (by omega), if_neg (by omega), if_neg (by omega)]
    have hb := b02 (by omega)
    by_cases z : k = 0
    · rw [if_pos z]
      rcases hb with w | w
      · rw [w]
        refine mk1 _ (by omega) (by decide) (by rw [w]; decide) ?_ (by omega) (by omega)
        rw [hm]; decide
      · rw [w]
        refine mk1 _ (by omega) (by decide) (by rw [w]; decide) ?_ (by omega) (by omega)
        rw [hm]; decide
    · rw [if_neg z]; exact mk0 _ (by omega)
  by_cases e1 : P 3 n = 1
  · rw [if_pos e1]; exact cond (Or.inl e1)
  rw [if_neg e1]
  by_cases e2 : P 3 n = 2
  · rw [if_pos e2]; exact cond (Or.inr e2)
  rw [if_neg e2]
  by_cases e3 : P 3 n = 3
  · rw [if_pos e3]; exact out (by omega)
  rw [if_neg e3]
  by_cases e4 : P 3 n = 4
  · rw [if_pos e4, q4 (by omega)]
    have hnch : nch P n = (if -1 ≤ P 4 n ∧ P 4 n ≤ 1 then 2 else 3) := by unfold nch; rw [if_neg (by omega), if_pos e4]
    have hnv : newv P n k = (if k = 0 then w32 (P 4 n + 1) else if k = 1 then w32 (P 4 n - 1) else 0) := by unfold newv; rw [if_pos e4]
    have h23 : nch P n = 2 ∨ nch P n = 3 := by rw [hnch]; split <;> omega
    by_cases z : k = 0
    · rw [if_pos z, if_pos (by omega)]; rw [if_pos z] at hnv
      exact vk1 _ (Or.inl e4) hnv (by omega) (by omega)
    rw [if_neg z] at hnv ⊢
    by_cases y : k = 1
    · rw [if_pos y, if_pos (by omega)]; rw [if_pos y] at hnv
      exact vk1 _ (Or.inl e4) hnv (by omega) (by omega)
    rw [if_neg y] at hnv ⊢
    rw [if_neg (by omega)]
    by_cases w : k = 2
    · rw [if_pos w]
      by_cases v1 : P 4 n < -1
      · rw [if_pos v1]; rw [if_neg (by omega)] at hnch; exact vk1 _ (Or.inl e4) hnv (by omega) (by omega)
      · rw [if_neg v1]
        by_cases v2 : P 4 n ≤ 1
        · rw [if_pos v2]; rw [if_pos (by omega)] at hnch; exact vk0 _ (by omega)
        · rw [if_neg v2]; rw [if_neg (by omega)] at hnch; exact vk1 _ (Or.inl e4) hnv (by omega) (by omega)
    · rw [if_neg w]; exact vk0 _ (by omega)
  rw [if_neg e4]
  by_cases e5 : P 3 n = 5
  · rw [if_pos e5, q4 (by omega), f1.g rfl, hV]
    have hnch : nch P n = pc (P 2 18) - 1 := by unfold nch; rw [if_neg (by omega), if_neg (by omega), if_pos e5]
    have hnv : newv P n k = (ot (isV (P 2 18) (P 4 n)) 9 0 k).getD (-100) := by unfold newv; rw [if_neg (by omega), if_pos e5]
    have hb := (hW.v.2 n hn.1 hn.2).2.1 e5
    have hr := hW.r.2.2 n hn.1 hn.2 (Or.inl e5)
    have ho := oc_but hb 9 0
    rw [if_pos ⟨hr.1, by omega⟩] at ho
    have hp : pc (P 2 18) = oc (bi (P 2 18)) 9 0 := rfl
    apply k12_otherOf_r
    refine otherOf_r 9 0 8 k (by decide) (by decide) (by decide) (by omega) hk ?_
    have hnone := ot_none (f := isV (P 2 18) (P 4 n)) 9 0 k (by omega)
    cases hs : ot (isV (P 2 18) (P 4 n)) 9 0 k with
    | none =>
      rw [hs] at hnone
      have := hnone.mp rfl
      show (if (-1 : Int) = -1 then _ else _)
      rw [if_pos rfl]
      exact vk0 _ (by omega)
    | some w =>
      rw [hs] at hnone hnv
      have hw := ot_some _ _ _ _ hs
      have : ¬ oc (isV (P 2 18) (P 4 n)) 9 0 ≤ k := fun z => by have := hnone.mpr z; simp at this
      show (if w = -1 then _ else _)
      rw [if_neg (by omega)]
      exact vk1 _ (Or.inr e5) hnv (by omega) (by omega)
  rw [if_neg e5]
  by_cases e6 : P 3 n = 6
  · rw [if_pos e6]; exact out (by omega)
  rw [if_neg e6]
  by_cases e7 : P 3 n = 7
  · rw [if_pos e7]
    have hv10 := (hW.v.2 n hn.1 hn.2).1 e7
    have hnch : nch P n = (if P 4 n = 0 ∨ P 4 n = 2 then 4 else 5) := by unfold nch; rw [if_neg (by omega), if_neg (by omega), if_neg (by omega), if_pos e7]
    have hk' : mks P n k = (sgn P n k).getD (-100) := by unfold mks; rw [if_neg (by omega), if_pos e7]
    have hv : newv P n k = (sgn P n k).getD (P 4 n) := by unfold newv; rw [if_neg (by omega), if_neg (by omega), if_pos e7]
    have hm : newm P n k = (if (sgn P n k).isSome = true then P 5 n else if P 5 n = 3 then 0 else 3) := by unfold newm; rw [if_neg (by omega), if_pos e7]
    have hoc := sgn_oc hv10
    apply k12_asksSides_r
    refine ⟨⟨hn.1, by omega⟩, ?_⟩
    rw [g146, q4 (by omega)]
    -- a sign made
    have some1 : ∀ w, sgn P n k = some w → 0 ≤ k → k < nch P n → K 1 (upI M1 142 45 w) := by
      intro w hs k0 k1
      refine h1 k0 k1 _ (f1.up _ rfl) ?_
      rw [gI_eq, gI_nf _ _ (by decide), e46]
      rw [hs] at hv hm hk'
      refine ⟨fun _ => hv.symm, ⟨q7, q7', ?_⟩, ?_⟩
      · rw [hm]; exact q5
      · rw [if_pos rfl, hk']; rfl
    have none1 : ∀ r, sgn P n k = none → 0 ≤ k → k < nch P n → K 1 (upI (upI (upI M1 142 45 r) 142 45 (P 4 n)) 142 46 (pm_ixor (gI M 153 n) 4)) := by
      intro r hs k0 k1
      refine h1 k0 k1 _ (((f1.up _ rfl).up _ rfl).up _ rfl) ?_
      rw [gI_nf _ _ (by decide), gI_eq, gI_eq]
      rw [hs] at hv hm hk'
      rcases q7 e7 with y | y
      · rw [y] at q5 ⊢
        refine ⟨fun _ => hv.symm, ⟨fun _ => by decide, fun z => absurd e7 z, ?_⟩, ?_⟩
        · rw [hm, q5]; decide
        · rw [hk']; rfl
      · rw [y] at q5 ⊢
        refine ⟨fun _ => hv.symm, ⟨fun _ => by decide, fun z => absurd e7 z, ?_⟩, ?_⟩
        · rw [hm, q5]; decide
        · rw [hk']; rfl
    have none0 : ∀ r, ¬ (0 ≤ k ∧ k < nch P n) → K 0 (upI (upI (upI M1 142 45 r) 142 45 (P 4 n)) 142 46 (pm_ixor (gI M 153 n) 4)) := fun r hno => h0 hno _ (((f1.up _ rfl).up _ rfl).up _ rfl)
    have i01 : ∀ x (A : pm_M), (x = 0 ∨ x = 1) → K x A → ((x = 0 ∨ x = 1) ∧ K x A) := fun x A z w => ⟨z, w⟩
    have tail : ∀ r, sgn P n k = none → (4 ≤ k) → (¬ P 4 n ≤ 4 → 5 ≤ k) → ((0 ≤ n ∧ n < 60) ∧ (if k = 4 then (if P 4 n = 1 then ((1 : Int) = 0 ∨ (1 : Int) = 1) ∧ K 1 (upI (upI (upI M1 142 45 r) 142 45 (P 4 n)) 142 46 (pm_ixor (gI M 153 n) 4)) else (if P 4 n = 3 then ((1 : Int) = 0 ∨ (1 : Int) = 1) ∧ K 1 (upI (upI (upI M1 142 45 r) 142 45 (P 4 n)) 142 46 (pm_ixor (gI M 153 n) 4)) else (if P 4 n = 4 then ((1 : Int) = 0 ∨ (1 : Int) = 1) ∧ K 1 (upI (upI (upI M1 142 45 r) 142 45 (P 4 n)) 142 46 (pm_ixor (gI M 153 n) 4)) else ((0 : Int) = 0 ∨ (0 : Int) = 1) ∧ K 0 (upI (upI (upI M1 142 45 r) 142 45 (P 4 n)) 142 46 (pm_ixor (gI M 153 n) 4))))) else ((0 : Int) = 0 ∨ (0 : Int) = 1) ∧ K 0 (upI (upI (upI M1 142 45 r) 142 45 (P 4 n)) 142 46 (pm_ixor (gI M 153 n) 4)))) := by
      intro r hs k4 k5
      refine ⟨⟨hn.1, by omega⟩, ?_⟩
      by_cases z : k = 4
      · rw [if_pos z]
        by_cases y1 : P 4 n = 1
        · rw [if_pos y1]; rw [if_neg (by omega)] at hnch; exact ⟨Or.inr rfl, none1 r hs (by omega) (by omega)⟩
        rw [if_neg y1]
        by_cases y3 : P 4 n = 3
        · rw [if_pos y3]; rw [if_neg (by omega)] at hnch; exact ⟨Or.inr rfl, none1 r hs (by omega) (by omega)⟩
        rw [if_neg y3]
        by_cases y4 : P 4 n = 4
        · rw [if_pos y4]; rw [if_neg (by omega)] at hnch; exact ⟨Or.inr rfl, none1 r hs (by omega) (by omega)⟩
        rw [if_neg y4]
        rw [if_pos (by omega)] at hnch
        exact ⟨Or.inl rfl, none0 r (by omega)⟩
      · rw [if_neg z]
        refine ⟨Or.inl rfl, none0 r ?_⟩
        have : nch P n ≤ 5 := by rw [hnch]; split <;> omega
        omega
    by_cases hle : P 4 n ≤ 4
    · rw [if_pos hle]
      have hsg : sgn P n k = ot (isV 2047 (P 4 n)) 5 0 k := by unfold sgn; rw [if_pos hle]
      apply k12_otherOf_r
      refine otherOf_r 5 0 4 k (by decide) (by decide) (by decide) (by omega) hk ?_
      have hnone := ot_none (f := isV 2047 (P 4 n)) 5 0 k (by omega)
      rw [← hsg, hoc.1 hle] at hnone
      rw [← hsg]
      cases hs : sgn P n k with
      | none =>
        have k4 := hnone.mp hs
        show (if (-1 : Int) = -1 then _ else _)
        rw [if_pos rfl, g153]
        exact tail _ hs k4 (fun z => absurd hle z)
      | some w =>
        have hw : 0 ≤ w := by rw [hsg] at hs; have := ot_some _ _ _ _ hs; omega
        have : ¬ 4 ≤ k := fun z => by have := hnone.mpr z; rw [hs] at this; simp at this
        show (if w = -1 then _ else _)
        rw [if_neg (by omega)]
        exact ⟨Or.inr rfl, some1 w hs (by omega) (by rw [hnch]; split <;> omega)⟩
    · rw [if_neg hle]
      have hsg : sgn P n k = ot (isV 2047 (P 4 n)) 6 5 k := by unfold sgn; rw [if_neg hle]
      apply k12_otherOf_r
      refine otherOf_r 6 5 10 k (by decide) (by decide) (by decide) (by omega) hk ?_
      have hnone := ot_none (f := isV 2047 (P 4 n)) 6 5 k (by omega)
      rw [← hsg, hoc.2 hle] at hnone
      rw [← hsg]
      cases hs : sgn P n k with
      | none =>
        have k5 := hnone.mp hs
        show (if (-1 : Int) = -1 then _ else _)
        rw [if_pos rfl, g153]
        exact tail _ hs (by omega) (fun _ => k5)
      | some w =>
        have hw : 0 ≤ w := by rw [hsg] at hs; have := ot_some _ _ _ _ hs; omega
        have : ¬ 5 ≤ k := fun z => by have := hnone.mpr z; rw [hs] at this; simp at this
        show (if w = -1 then _ else _)
        rw [if_neg (by omega)]
        exact ⟨Or.inr rfl, some1 w hs (by omega) (by rw [hnch, if_neg (by omega)]; omega)⟩
  · rw [if_neg e7]
    exact out (by omega)
theorem chg_nn {P : Pg} (hW : WF P) {n : Int} (hn : 0 ≤ n ∧ n < P 2 15) : 0 ≤ chg P n := by
  by_cases h : gone P n
  · rw [chg_gone h]; omega
  · rw [chg_not h]
    unfold nch
    split
    · omega
    · split
      · split <;> omega
      · split
        · rename_i e
          have hb := (hW.v.2 n hn.1 hn.2).2.1 e
          have hr := hW.r.2.2 n hn.1 hn.2 (Or.inl e)
          have ho := oc_but hb 9 0
          rw [if_pos ⟨hr.1, by omega⟩] at ho
          have := oc_nn (isV (P 2 18) (P 4 n)) 9 0
          have hp : pc (P 2 18) = oc (bi (P 2 18)) 9 0 := rfl
          omega
        · split
          · split <;> omega
          · omega
theorem changesOf_r {P : Pg} {M : pm_M} {K : Int → pm_M → Prop} {n : Int} (hW : WF P) (hR : RP P M) (hV : gI M 142 22 = P 2 18) (hn : 0 ≤ n ∧ n < P 2 15) (hq : ∀ M', Fr qAsk M M' → K (chg P n) M') : k12_changesOf n M K := by
  apply k12_changesOf_r
  have hle := chg_le (P := P) (n := n)
  have hr' : ∀ M1, Fr qAsk M M1 → RP P M1 ∧ gI M1 142 22 = P 2 18 := fun M1 f => ⟨f.rp hR (fun a i a1 a2 => by simp [qAsk]; omega), by rw [f.g rfl, hV]⟩
  refine upto (n := chg P n) (I := fun _ M1 => Fr qAsk M M1) (Q := fun k M1 => k12_changesOf_2 n k M1 K) ?_ ?_ 0 M (by decide) (chg_nn hW hn) Fr.rf
  · intro M1 f
    apply k12_changesOf_2_r
    obtain ⟨r1, v1⟩ := hr' M1 f
    refine asks_r hW r1 v1 hn (by omega) (fun _ M' f' => ?_) (fun _ z => by omega)
    rw [if_pos rfl]; exact hq M' (f.trans f')
  · intro k M1 k0 k1 f ih
    apply k12_changesOf_2_r
    obtain ⟨r1, v1⟩ := hr' M1 f
    refine asks_r hW r1 v1 hn (by omega) (fun z => absurd ⟨k0, k1⟩ z) (fun _ _ M' f' _ => ?_)
    rw [if_neg (by decide), w32_id (by omega)]
    exact ih M' (f.trans f')
def qSet (a _i : Nat) : Bool := a == 146 || a == 153
/-- what the reference holds when a change is put in -/
theorem rp_set {P : Pg} {M : pm_M} {n v m v' b : Int} (h60 : P 2 15 ≤ 60) (hR : RP P M) (hn : 0 ≤ n ∧ n < P 2 15) (hv : P 3 n = 0 ∨ P 3 n = 4 ∨ P 3 n = 5 ∨ P 3 n = 7 → v' = v) (hb7 : P 3 n = 7 → b = 0 ∨ b = 4) (hb : P 3 n ≠ 7 → 0 ≤ b ∧ b < 4) (hm : m = cm b) : RP (pset P n v m) (upI (upI M 146 n v') 153 n b) := by
  refine ⟨?_, ?_, ?_⟩
  · rw [gI_ne _ _ _ _ (by decide), gI_ne _ _ _ _ (by decide)]; exact hR.1
  · rw [gI_ne _ _ _ _ (by decide), gI_ne _ _ _ _ (by decide)]; exact hR.2.1
  · intro j j0 j1
    obtain ⟨a3, a4, a5, a1, a8, as, a6⟩ := hR.2.2 j j0 j1
    refine ⟨?_, ?_, ?_, ?_, ?_, ?_, ?_⟩
    · rw [gI_ne _ _ _ _ (by decide), gI_ne _ _ _ _ (by decide)]; exact a3
    · intro z
      rw [gI_ne _ _ _ _ (by decide), gI_up _ _ hn.1 j0, pset4 hn.1 j0]
      by_cases e : j = n
      · subst e; rw [if_pos rfl, if_pos rfl]; exact hv z
      · rw [if_neg e, if_neg e]; exact a4 z
    · rw [gI_up _ _ hn.1 j0, pset5 hn.1 j0]
      by_cases e : j = n
      · subst e; rw [if_pos rfl, if_pos rfl]; exact ⟨hb7, hb, hm⟩
      · rw [if_neg e, if_neg e, gI_ne _ _ _ _ (by decide)]; exact a5
    · intro z; rw [gI_ne _ _ _ _ (by decide), gI_ne _ _ _ _ (by decide)]; exact a1 z
    · intro z; rw [gI_ne _ _ _ _ (by decide), gI_ne _ _ _ _ (by decide)]; exact a8 z
    · intro z; rw [gI_ne _ _ _ _ (by decide), gI_ne _ _ _ _ (by decide), gI_ne _ _ _ _ (by decide), gI_ne _ _ _ _ (by decide), gI_ne _ _ _ _ (by decide), gI_ne _ _ _ _ (by decide)]; exact as z
    · rw [gI_ne _ _ _ _ (by decide), gI_ne _ _ _ _ (by decide)]; exact a6
/-- taken out again -/
theorem up_back {M M' : pm_M} {n v b : Int} (h : ∀ a i, a = 146 ∨ a = 153 → M' a i = upI (upI M 146 n v) 153 n b a i) : ∀ a i, a = 146 ∨ a = 153 → upI (upI M' 146 n (gI M 146 n)) 153 n (gI M 153 n) a i = M a i := by
  intro a i ha
  show (if a = 153 ∧ i = n.toNat then gI M 153 n else (if a = 146 ∧ i = n.toNat then gI M 146 n else M' a i)) = M a i
  rw [h a i ha]
  show (if a = 153 ∧ i = n.toNat then gI M 153 n else (if a = 146 ∧ i = n.toNat then gI M 146 n else (if a = 153 ∧ i = n.toNat then b else (if a = 146 ∧ i = n.toNat then v else M a i)))) = M a i
  by_cases z : a = 153 ∧ i = n.toNat
  · rw [if_pos z, z.1, z.2]; rfl
  · rw [if_neg z]
    by_cases y : a = 146 ∧ i = n.toNat
    · rw [if_pos y, y.1, y.2]; rfl
    · rw [if_neg y, if_neg z, if_neg y]

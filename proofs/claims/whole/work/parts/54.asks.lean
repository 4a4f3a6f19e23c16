-- needs 30 31 32 33a 33b 33c 33d 33e 33f 33g 33h 33i 33j 40 41 42 43 44 45 46 50 51 52 53
/-! changes: how many, what they make; put in and taken out -/
def PV (P : Pg) : Prop := (0 ≤ P 2 18 ∧ P 2 18 < 512) ∧ ∀ n, 0 ≤ n → n < P 2 15 → (P 3 n = 7 → 0 ≤ P 4 n ∧ P 4 n ≤ 10) ∧ (P 3 n = 5 → bi (P 2 18) (P 4 n) = true) ∧ (P 3 n = 4 → -2147483648 ≤ P 4 n ∧ P 4 n < 2147483648)
def WF (P : Pg) : Prop := PWr P ∧ PWs P ∧ PWt P ∧ PWx P ∧ PV P
theorem WF.r {P : Pg} (h : WF P) : PWr P := h.1
theorem WF.s {P : Pg} (h : WF P) : PWs P := h.2.1
theorem WF.t {P : Pg} (h : WF P) : PWt P := h.2.2.1
theorem WF.x {P : Pg} (h : WF P) : PWx P := h.2.2.2.1
theorem WF.v {P : Pg} (h : WF P) : PV P := h.2.2.2.2
theorem WF.le {P : Pg} (h : WF P) : P 2 15 ≤ 60 := h.1.1
def nch (P : Pg) (n : Int) : Int := if P 3 n = 1 ∨ P 3 n = 2 then 2 else if P 3 n = 4 then (if -1 ≤ P 4 n ∧ P 4 n ≤ 1 then 2 else 3) else if P 3 n = 5 then pc (P 2 18) - 1 else if P 3 n = 7 then (if P 4 n = 0 ∨ P 4 n = 2 then 4 else 5) else 1
noncomputable def chg (P : Pg) (n : Int) : Int := @ite Int (gone P n) (Classical.propDecidable _) 0 (nch P n)
theorem chg_gone {P : Pg} {n : Int} (h : gone P n) : chg P n = 0 := if_pos h
theorem chg_not {P : Pg} {n : Int} (h : ¬ gone P n) : chg P n = nch P n := if_neg h
def sgn (P : Pg) (n k : Int) : Option Int := if P 4 n ≤ 4 then ot (isV 2047 (P 4 n)) 5 0 k else ot (isV 2047 (P 4 n)) 6 5 k
def newv (P : Pg) (n c : Int) : Int := if P 3 n = 4 then (if c = 0 then w32 (P 4 n + 1) else if c = 1 then w32 (P 4 n - 1) else 0) else if P 3 n = 5 then (ot (isV (P 2 18) (P 4 n)) 9 0 c).getD (-100) else if P 3 n = 7 then (sgn P n c).getD (P 4 n) else P 4 n
def newm (P : Pg) (n c : Int) : Int := if P 3 n = 4 ∨ P 3 n = 5 then P 5 n else if P 3 n = 7 then (if (sgn P n c).isSome = true then P 5 n else if P 5 n = 3 then 0 else 3) else if P 3 n = 1 ∨ P 3 n = 2 then (if c = 1 then 1 else if P 5 n = 2 then 0 else 2) else 1
def mks (P : Pg) (n c : Int) : Int := if P 3 n = 4 ∨ P 3 n = 5 then newv P n c else if P 3 n = 7 then (sgn P n c).getD (-100) else -100
theorem nch_le {P : Pg} {n : Int} : nch P n ≤ 8 := by
  unfold nch
  have := oc_nn (bi (P 2 18)) 9 0
  have h : pc (P 2 18) ≤ 9 := this.2
  split
  · omega
  · split
    · split <;> omega
    · split
      · omega
      · split
        · split <;> omega
        · omega
theorem chg_le {P : Pg} {n : Int} : chg P n ≤ 8 := by
  by_cases h : gone P n
  · rw [chg_gone h]; omega
  · rw [chg_not h]; exact nch_le
theorem changeCount_r {P : Pg} {M : pm_M} {K : Int → pm_M → Prop} {n : Int} (hW : WF P) (hS : Sm P M) (hn : 0 ≤ n ∧ n < P 2 15) (hq : K (chg P n) M) : k0_changeCount n M K := by
  have h60 := hW.le
  apply k0_changeCount_r
  refine isGone_r hS h60 hW.t hW.x hn ?_ ?_
  · intro hg
    rw [if_neg (by decide)]
    rw [chg_gone hg] at hq
    exact hq
  · intro hg
    rw [if_pos rfl]
    rw [chg_not hg] at hq
    refine ⟨⟨hn.1, by omega⟩, ?_⟩
    rw [hS 3 (by decide) (by decide), hS 4 (by decide) (by decide)]
    unfold nch at hq
    by_cases e1 : P 3 n = 1
    · rw [if_pos e1]; rw [if_pos (Or.inl e1)] at hq; exact hq
    rw [if_neg e1]
    by_cases e2 : P 3 n = 2
    · rw [if_pos e2]; rw [if_pos (Or.inr e2)] at hq; exact hq
    rw [if_neg e2]
    rw [if_neg (fun z => z.elim e1 e2)] at hq
    by_cases e3 : P 3 n = 3
    · rw [if_pos e3]; rw [if_neg (by omega), if_neg (by omega), if_neg (by omega)] at hq; exact hq
    rw [if_neg e3]
    by_cases e4 : P 3 n = 4
    · rw [if_pos e4]; rw [if_pos e4] at hq
      by_cases z : P 4 n < -1
      · rw [if_pos z]; rw [if_neg (by omega)] at hq; exact hq
      · rw [if_neg z]
        by_cases y : P 4 n ≤ 1
        · rw [if_pos y]; rw [if_pos ⟨by omega, y⟩] at hq; exact hq
        · rw [if_neg y]; rw [if_neg (by omega)] at hq; exact hq
    rw [if_neg e4] at hq ⊢
    by_cases e5 : P 3 n = 5
    · rw [if_pos e5] at hq ⊢
      apply k0_variableCount_r
      rw [hS 2 (by decide) (by decide)]
      refine bitCount_r hW.v.1 ?_
      have := oc_nn (bi (P 2 18)) 9 0
      have h : 0 ≤ pc (P 2 18) ∧ pc (P 2 18) ≤ 9 := this
      rw [w32_id (by omega)]
      exact hq
    rw [if_neg e5] at hq ⊢
    by_cases e6 : P 3 n = 6
    · rw [if_pos e6]; rw [if_neg (by omega)] at hq; exact hq
    rw [if_neg e6]
    by_cases e7 : P 3 n = 7
    · rw [if_pos e7] at hq ⊢
      by_cases z : P 4 n = 0
      · rw [if_pos z]; rw [if_pos (Or.inl z)] at hq; exact hq
      · rw [if_neg z]
        by_cases y : P 4 n = 2
        · rw [if_pos y]; rw [if_pos (Or.inr y)] at hq; exact hq
        · rw [if_neg y]; rw [if_neg (fun w => w.elim z y)] at hq; exact hq
    · rw [if_neg e7] at hq ⊢; exact hq
/-- the sign that comes of a change -/
theorem sgn_oc {P : Pg} {n : Int} (h : 0 ≤ P 4 n ∧ P 4 n ≤ 10) : (P 4 n ≤ 4 → oc (isV 2047 (P 4 n)) 5 0 = 4) ∧ (¬ P 4 n ≤ 4 → oc (isV 2047 (P 4 n)) 6 5 = 5) := by
  generalize P 4 n = s at h
  obtain ⟨k, rfl⟩ : ∃ k : Nat, s = (k : Int) := ⟨s.toNat, by omega⟩
  have hk : k ≤ 10 := by omega
  clear h
  have key : ∀ k : Nat, k ≤ 10 → ((k : Int) ≤ 4 → oc (isV 2047 (k : Int)) 5 0 = 4) ∧ (¬ (k : Int) ≤ 4 → oc (isV 2047 (k : Int)) 6 5 = 5) := by decide +kernel
  exact key k hk
theorem otherSign_r {P : Pg} {M : pm_M} {K : Int → pm_M → Prop} {n c : Int} (h : 0 ≤ P 4 n ∧ P 4 n ≤ 10) (hc : 0 ≤ c ∧ c < 5) (hq : K ((sgn P n c).getD (-100)) M) : k0_otherSign (P 4 n) c M K := by
  apply k0_otherSign_r
  unfold sgn at hq
  generalize P 4 n = s at h hq
  have w0 : w32 (0 + c) = c := by rw [Int.zero_add]; exact w32_id (by omega)
  have w5 : w32 (5 + c) = 5 + c := w32_id (by omega)
  have w1 : w32 (c + 1) = c + 1 := w32_id (by omega)
  have w6 : w32 (5 + c + 1) = 5 + c + 1 := w32_id (by omega)
  rw [w0, w5, w1, w6]
  obtain ⟨k, rfl⟩ : ∃ k : Nat, s = (k : Int) := ⟨s.toNat, by omega⟩
  obtain ⟨d, rfl⟩ : ∃ k : Nat, c = (k : Int) := ⟨c.toNat, by omega⟩
  have hk : k ≤ 10 := by omega
  have hd : d < 5 := by omega
  have key : ∀ k : Nat, k ≤ 10 → ∀ d : Nat, d < 5 → ((if (k : Int) ≤ 4 then ot (isV 2047 (k : Int)) 5 0 (d : Int) else ot (isV 2047 (k : Int)) 6 5 (d : Int)).getD (-100)) = (if (k : Int) < 5 then (if (d : Int) < k then (if (d : Int) ≤ 4 then (d : Int) else -100) else (if (d : Int) + 1 ≤ 4 then (d : Int) + 1 else -100)) else (if 5 + (d : Int) < k then (if 5 + (d : Int) ≤ 10 then 5 + (d : Int) else -100) else (if 5 + (d : Int) + 1 ≤ 10 then 5 + (d : Int) + 1 else -100))) := by decide +kernel
  rw [key k hk d hd] at hq
  generalize (k : Int) = s at hq ⊢
  generalize (d : Int) = c at hq ⊢
  by_cases z1 : s < 5
  · rw [if_pos z1] at hq ⊢
    by_cases z2 : c < s
    · rw [if_pos z2] at hq ⊢; exact pm_ifK hq
    · rw [if_neg z2] at hq ⊢; exact pm_ifK hq
  · rw [if_neg z1] at hq ⊢
    by_cases z2 : 5 + c < s
    · rw [if_pos z2] at hq ⊢; exact pm_ifK hq
    · rw [if_neg z2] at hq ⊢; exact pm_ifK hq
theorem makes_r {P : Pg} {M : pm_M} {K : Int → pm_M → Prop} {n c : Int} (hW : WF P) (hS : Sm P M) (hn : 0 ≤ n ∧ n < P 2 15) (hc : 0 ≤ c ∧ c < 8) (h7 : P 3 n = 7 → c < 5) (hq : K (mks P n c) M) : k0_makes n c M K := by
  have h60 := hW.le
  apply k0_makes_r
  refine ⟨⟨hn.1, by omega⟩, ?_⟩
  rw [hS 3 (by decide) (by decide), hS 4 (by decide) (by decide)]
  unfold mks newv at hq
  by_cases e4 : P 3 n = 4
  · rw [if_pos e4]; rw [if_pos (Or.inl e4), if_pos e4] at hq
    by_cases z : c = 0
    · rw [if_pos z] at hq ⊢; exact hq
    · rw [if_neg z] at hq ⊢
      by_cases y : c = 1
      · rw [if_pos y] at hq ⊢; exact hq
      · rw [if_neg y] at hq ⊢; exact hq
  rw [if_neg e4]
  by_cases e5 : P 3 n = 5
  · rw [if_pos e5]; rw [if_pos (Or.inr e5), if_neg e4, if_pos e5] at hq
    apply k0_otherVariable_r
    exact otherVar_r (by rw [hS 2 (by decide) (by decide)]) 9 0 c (by decide) (by decide) hc.1 (by omega) hq
  rw [if_neg e5]
  rw [if_neg (fun z => z.elim e4 e5)] at hq
  by_cases e6 : P 3 n = 6
  · rw [if_pos e6]; rw [if_neg (by omega)] at hq; exact hq
  rw [if_neg e6]
  by_cases e7 : P 3 n = 7
  · rw [if_pos e7] at hq ⊢
    exact otherSign_r ((hW.v.2 n hn.1 hn.2).1 e7) ⟨hc.1, h7 e7⟩ hq
  · rw [if_neg e7] at hq ⊢; exact hq
def pset (P : Pg) (n v m : Int) : Pg := fun a => if a = 4 then fput (P 4) n v else if a = 5 then fput (P 5) n m else P a
theorem pset4 {P : Pg} {n v m j : Int} (hn : 0 ≤ n) (hj : 0 ≤ j) : pset P n v m 4 j = if j = n then v else P 4 j := by
  show (if j.toNat = n.toNat then v else P 4 j) = _
  by_cases h : j = n
  · subst h; rw [if_pos rfl, if_pos rfl]
  · rw [if_neg h, if_neg (by omega)]
theorem pset5 {P : Pg} {n v m j : Int} (hn : 0 ≤ n) (hj : 0 ≤ j) : pset P n v m 5 j = if j = n then m else P 5 j := by
  show (if j.toNat = n.toNat then m else P 5 j) = _
  by_cases h : j = n
  · subst h; rw [if_pos rfl, if_pos rfl]
  · rw [if_neg h, if_neg (by omega)]
theorem pset_o {P : Pg} {n v m : Int} {a : Nat} (h4 : a ≠ 4) (h5 : a ≠ 5) : pset P n v m a = P a := by
  show (if a = 4 then fput (P 4) n v else if a = 5 then fput (P 5) n m else P a) = P a
  rw [if_neg h4, if_neg h5]
def pSet (a _i : Nat) : Bool := a == 4 || a == 5
theorem sm_of {P : Pg} {M M' : pm_M} {n v m : Int} (hS : Sm P M) (ho : Fr pSet M M') (h4 : gI M' 4 = fput (gI M 4) n v) (h5 : gI M' 5 = fput (gI M 5) n m) : Sm (pset P n v m) M' := by
  intro a a1 a2
  by_cases e4 : a = 4
  · subst e4
    show gI M' 4 = fput (P 4) n v
    rw [h4, hS 4 (by decide) (by decide)]
  by_cases e5 : a = 5
  · subst e5
    show gI M' 5 = fput (P 5) n m
    rw [h5, hS 5 (by decide) (by decide)]
  rw [pset_o e4 e5, ← hS a a1 a2]
  exact ho.c (fun i => by simp [pSet, e4, e5])
theorem fput_id (M : pm_M) (a : Nat) (i : Int) : fput (gI M a) i (gI M a i) = gI M a := by
  funext j
  show (if j.toNat = i.toNat then gI M a i else gI M a j) = gI M a j
  by_cases h : j.toNat = i.toNat
  · rw [if_pos h]; unfold gI; rw [h]
  · rw [if_neg h]
theorem gI_upc (M : pm_M) {a b : Nat} (i v : Int) (h : b ≠ a) : gI (upI M a i v) b = gI M b := by funext j; exact gI_ne _ _ _ _ h
theorem sm_45 {P : Pg} {M : pm_M} {n v m : Int} (hS : Sm P M) : Sm (pset P n v m) (upI (upI M 4 n v) 5 n m) := sm_of hS ((Fr.rf.up _ rfl).up _ rfl) (by rw [gI_upc _ _ _ (by decide), gI_fput]) (by rw [gI_fput, gI_upc _ _ _ (by decide)])
theorem sm_4 {P : Pg} {M : pm_M} {n v : Int} (hS : Sm P M) : Sm (pset P n v (P 5 n)) (upI M 4 n v) := sm_of hS (Fr.rf.up _ rfl) (by rw [gI_fput]) (by rw [gI_upc _ _ _ (by decide), ← hS 5 (by decide) (by decide), fput_id])
theorem sm_5 {P : Pg} {M : pm_M} {n m : Int} (hS : Sm P M) : Sm (pset P n (P 4 n) m) (upI M 5 n m) := sm_of hS (Fr.rf.up _ rfl) (by rw [gI_upc _ _ _ (by decide), ← hS 4 (by decide) (by decide), fput_id]) (by rw [gI_fput])
theorem pset_back {P : Pg} {M : pm_M} (hS : Sm P M) {n v m : Int} : pset (pset P n v m) n (P 4 n) (P 5 n) = P := by
  funext a
  by_cases e4 : a = 4
  · subst e4
    funext j
    show (if j.toNat = n.toNat then P 4 n else (if j.toNat = n.toNat then v else P 4 j)) = P 4 j
    by_cases h : j.toNat = n.toNat
    · rw [if_pos h, ← hS 4 (by decide) (by decide)]; unfold gI; rw [h]
    · rw [if_neg h, if_neg h]
  by_cases e5 : a = 5
  · subst e5
    funext j
    show (if j.toNat = n.toNat then P 5 n else (if j.toNat = n.toNat then m else P 5 j)) = P 5 j
    by_cases h : j.toNat = n.toNat
    · rw [if_pos h, ← hS 5 (by decide) (by decide)]; unfold gI; rw [h]
    · rw [if_neg h, if_neg h]
  rw [pset_o e4 e5, pset_o e4 e5]
/-- the program with a change in it -/
def pch (P : Pg) (n c : Int) : Pg := pset P n (newv P n c) (newm P n c)
theorem apply_r {P : Pg} {M : pm_M} {K : pm_M → Prop} {n c : Int} (hW : WF P) (hS : Sm P M) (hn : 0 ≤ n ∧ n < P 2 15) (hc : 0 ≤ c ∧ c < chg P n) (hq : ∀ M', Fr pSet M M' → Sm (pch P n c) M' → K M') : k0_apply n c M K := by
  have h60 := hW.le
  have hg : ¬ gone P n := fun z => by rw [chg_gone z] at hc; omega
  rw [chg_not hg] at hc
  have c8 := nch_le (P := P) (n := n)
  have q4 : ∀ v, newv P n c = v → newm P n c = P 5 n → K (upI M 4 n v) := by
    intro v hv hm
    refine hq _ (Fr.rf.up _ rfl) ?_
    unfold pch
    rw [hv, hm]
    exact sm_4 hS
  have q5 : ∀ m, newv P n c = P 4 n → newm P n c = m → K (upI M 5 n m) := by
    intro m hv hm
    refine hq _ (Fr.rf.up _ rfl) ?_
    unfold pch
    rw [hv, hm]
    exact sm_5 hS
  apply k0_apply_r
  refine ⟨⟨hn.1, by omega⟩, ?_⟩
  rw [hS 3 (by decide) (by decide), hS 5 (by decide) (by decide)]
  have mk : (P 3 n = 7 → c < 5) := by
    intro e7
    have : nch P n ≤ 5 := by unfold nch; rw [if_neg (by omega), if_neg (by omega), if_neg (by omega), if_pos e7]; split <;> omega
    omega
  have loop12 : P 3 n = 1 ∨ P 3 n = 2 → (if c = 1 then K (upI M 5 n 1) else (if P 5 n = 2 then K (upI M 5 n 0) else K (upI M 5 n 2))) := by
    intro e
    have hv : newv P n c = P 4 n := by unfold newv; rw [if_neg (by omega), if_neg (by omega), if_neg (by omega)]
    have hm : newm P n c = (if c = 1 then 1 else if P 5 n = 2 then 0 else 2) := by unfold newm; rw [if_neg (by omega), if_neg (by omega), if_pos e]
    by_cases z : c = 1
    · rw [if_pos z] at hm ⊢; exact q5 _ hv hm
    · rw [if_neg z] at hm ⊢
      by_cases y : P 5 n = 2
      · rw [if_pos y] at hm ⊢; exact q5 _ hv hm
      · rw [if_neg y] at hm ⊢; exact q5 _ hv hm
  have oth : ¬ (P 3 n = 1 ∨ P 3 n = 2) → ¬ P 3 n = 4 → ¬ P 3 n = 5 → ¬ P 3 n = 7 → K (upI M 5 n 1) := by
    intro e1 e4 e5 e7
    refine q5 _ ?_ ?_
    · unfold newv; rw [if_neg e4, if_neg e5, if_neg e7]
    · unfold newm; rw [if_neg (fun z => z.elim e4 e5), if_neg e7, if_neg e1]
  by_cases e1 : P 3 n = 1
  · rw [if_pos e1]; exact loop12 (Or.inl e1)
  rw [if_neg e1]
  by_cases e2 : P 3 n = 2
  · rw [if_pos e2]; exact loop12 (Or.inr e2)
  rw [if_neg e2]
  by_cases e3 : P 3 n = 3
  · rw [if_pos e3]; exact oth (by omega) (by omega) (by omega) (by omega)
  rw [if_neg e3]
  by_cases e4 : P 3 n = 4
  · rw [if_pos e4]
    refine makes_r hW hS hn ⟨hc.1, by omega⟩ mk (q4 _ ?_ ?_)
    · unfold mks; rw [if_pos (Or.inl e4)]
    · unfold newm; rw [if_pos (Or.inl e4)]
  rw [if_neg e4]
  by_cases e5 : P 3 n = 5
  · rw [if_pos e5]
    refine makes_r hW hS hn ⟨hc.1, by omega⟩ mk (q4 _ ?_ ?_)
    · unfold mks; rw [if_pos (Or.inr e5)]
    · unfold newm; rw [if_pos (Or.inr e5)]
  rw [if_neg e5]
  by_cases e6 : P 3 n = 6
  · rw [if_pos e6]; exact oth (by omega) (by omega) (by omega) (by omega)
  rw [if_neg e6]
  by_cases e7 : P 3 n = 7
  · rw [if_pos e7]
    refine makes_r hW hS hn ⟨hc.1, by omega⟩ mk ?_
    have hk : mks P n c = (sgn P n c).getD (-100) := by unfold mks; rw [if_neg (by omega), if_pos e7]
    have hv : newv P n c = (sgn P n c).getD (P 4 n) := by unfold newv; rw [if_neg (by omega), if_neg (by omega), if_pos e7]
    have hm : newm P n c = (if (sgn P n c).isSome = true then P 5 n else if P 5 n = 3 then 0 else 3) := by unfold newm; rw [if_neg (by omega), if_pos e7]
    rw [hk, hS 5 (by decide) (by decide)]
    cases hs : sgn P n c with
    | none =>
      rw [hs] at hv hm
      rw [if_pos (show (none : Option Int).getD (-100) = -100 from rfl)]
      have hm' : newm P n c = (if P 5 n = 3 then 0 else 3) := hm
      by_cases y : P 5 n = 3
      · rw [if_pos y] at hm' ⊢; exact q5 _ hv hm'
      · rw [if_neg y] at hm' ⊢; exact q5 _ hv hm'
    | some w =>
      rw [hs] at hv hm
      have hw : 0 ≤ w := by
        unfold sgn at hs
        split at hs
        · have := ot_some _ _ _ _ hs; omega
        · have := ot_some _ _ _ _ hs; omega
      show if w = -100 then _ else _
      rw [if_neg (by omega)]
      exact q4 _ hv hm
  · rw [if_neg e7]; exact oth (by omega) e4 e5 e7
theorem Ex.congr {P P' : Pg} (h3 : P' 3 = P 3) (h8 : P' 8 = P 8) : ∀ {f : Nat} {n e : Int}, Ex P f n e → Ex P' f n e := by
  intro f
  induction f with
  | zero => intro n e h; exact h
  | succ f ih =>
    intro n e h
    show (P' 3 n = 4 ∧ e = n) ∨ (P' 3 n = 5 ∧ e = n) ∨ (P' 3 n = 6 ∧ Ex P' f (n + 1) e) ∨ (P' 3 n = 7 ∧ Ex P' f (n + 1) (P' 8 n - 1) ∧ Ex P' f (P' 8 n) e)
    rw [h3, h8]
    rcases h with h | h | ⟨h, h1⟩ | ⟨h, h1, h2⟩
    · exact Or.inl h
    · exact Or.inr (Or.inl h)
    · exact Or.inr (Or.inr (Or.inl ⟨h, ih h1⟩))
    · exact Or.inr (Or.inr (Or.inr ⟨h, ih h1, ih h2⟩))
theorem WF.set {P : Pg} (h : WF P) {n v m : Int} (hn : 0 ≤ n ∧ n < P 2 15) (h5 : P 3 n = 5 ∨ P 3 n = 0 → 0 ≤ v ∧ v < 9) (h5' : P 3 n = 5 → bi (P 2 18) v = true) (h7 : P 3 n = 7 → 0 ≤ v ∧ v ≤ 10) (h4 : P 3 n = 4 → -2147483648 ≤ v ∧ v < 2147483648) : WF (pset P n v m) := by
  obtain ⟨⟨r1, r2, r3⟩, hs, ht, hx, ⟨v1, v2⟩⟩ := h
  refine ⟨⟨r1, ?_, ?_⟩, hs, ht, hx, ⟨v1, ?_⟩⟩
  · intro s s0 s1 s3
    obtain ⟨f, hE, hl⟩ := r2 s s0 s1 s3
    exact ⟨f, Ex.congr (pset_o (by decide) (by decide)) (pset_o (by decide) (by decide)) hE, hl⟩
  · intro j j0 j1 hj
    rw [pset4 hn.1 j0]
    by_cases e : j = n
    · subst e; rw [if_pos rfl]; exact h5 hj
    · rw [if_neg e]; exact r3 j j0 j1 hj
  · intro j j0 j1
    rw [pset4 hn.1 j0]
    by_cases e : j = n
    · subst e; rw [if_pos rfl]; exact ⟨h7, h5', h4⟩
    · rw [if_neg e]; exact v2 j j0 j1
theorem newv_ok {P : Pg} (h : WF P) {n c : Int} (hn : 0 ≤ n ∧ n < P 2 15) (hc : 0 ≤ c ∧ c < nch P n) : (P 3 n = 5 ∨ P 3 n = 0 → 0 ≤ newv P n c ∧ newv P n c < 9) ∧ (P 3 n = 5 → bi (P 2 18) (newv P n c) = true) ∧ (P 3 n = 7 → 0 ≤ newv P n c ∧ newv P n c ≤ 10) ∧ (P 3 n = 4 → -2147483648 ≤ newv P n c ∧ newv P n c < 2147483648) := by
  have h5 : P 3 n = 5 → 0 ≤ newv P n c ∧ newv P n c < 9 ∧ bi (P 2 18) (newv P n c) = true := by
    intro e
    have hv : newv P n c = (ot (isV (P 2 18) (P 4 n)) 9 0 c).getD (-100) := by unfold newv; rw [if_neg (by omega), if_pos e]
    have hb := (h.v.2 n hn.1 hn.2).2.1 e
    have hr := h.r.2.2 n hn.1 hn.2 (Or.inl e)
    have ho := oc_but hb 9 0
    rw [if_pos ⟨hr.1, by omega⟩] at ho
    have hnch : nch P n = pc (P 2 18) - 1 := by unfold nch; rw [if_neg (by omega), if_neg (by omega), if_pos e]
    have hp : pc (P 2 18) = oc (bi (P 2 18)) 9 0 := rfl
    rw [hv]
    cases hs : ot (isV (P 2 18) (P 4 n)) 9 0 c with
    | none =>
      rw [ot_none _ _ _ hc.1] at hs
      omega
    | some w =>
      have := ot_some _ _ _ _ hs
      show 0 ≤ w ∧ w < 9 ∧ bi (P 2 18) w = true
      refine ⟨by omega, by omega, ?_⟩
      have h1 := this.1
      unfold isV at h1
      exact (Bool.and_eq_true _ _ ▸ h1).2
  refine ⟨?_, fun e => (h5 e).2.2, ?_, ?_⟩
  · intro e
    rcases e with e | e
    · exact ⟨(h5 e).1, (h5 e).2.1⟩
    · have hv : newv P n c = P 4 n := by unfold newv; rw [if_neg (by omega), if_neg (by omega), if_neg (by omega)]
      rw [hv]; exact h.r.2.2 n hn.1 hn.2 (Or.inr e)
  · intro e
    have hv : newv P n c = (sgn P n c).getD (P 4 n) := by unfold newv; rw [if_neg (by omega), if_neg (by omega), if_pos e]
    rw [hv]
    cases hs : sgn P n c with
    | none => exact (h.v.2 n hn.1 hn.2).1 e
    | some w =>
      show 0 ≤ w ∧ w ≤ 10
      unfold sgn at hs
      split at hs
      · have := ot_some _ _ _ _ hs; omega
      · have := ot_some _ _ _ _ hs; omega
  · intro e
    have hv : newv P n c = (if c = 0 then w32 (P 4 n + 1) else if c = 1 then w32 (P 4 n - 1) else 0) := by unfold newv; rw [if_pos e]
    rw [hv]
    split
    · unfold w32; omega
    · split
      · unfold w32; omega
      · omega
theorem WF.ch {P : Pg} (h : WF P) {n c : Int} (hn : 0 ≤ n ∧ n < P 2 15) (hc : 0 ≤ c ∧ c < nch P n) : WF (pch P n c) := by
  obtain ⟨a, b, d, e⟩ := newv_ok h hn hc
  exact h.set hn a b d e
theorem chg_nch {P : Pg} {n c : Int} (hc : 0 ≤ c ∧ c < chg P n) : ¬ gone P n ∧ 0 ≤ c ∧ c < nch P n := by
  have hg : ¬ gone P n := fun z => by rw [chg_gone z] at hc; omega
  rw [chg_not hg] at hc
  exact ⟨hg, hc⟩

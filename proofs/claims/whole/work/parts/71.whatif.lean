-- needs 30 31 32 33a 33b 33c 33d 33e 33f 33g 33h 33i 33j 40 41 42 43 44 45 46 50 51 52 53 54 55 56 57 58 59 60 61 63 64 65
/-! other values of a number; conditions forced; askings turned round -/
def abn (v own : Int) : Int := if 0 ≤ w32 (v - own) then w32 (v - own) else w32 (0 - (w32 (v - own)))
/-- how many values, the least, the greatest, the nearest -/
noncomputable def vst (P : Pg) (F : Fo) (T : Ts) (nT n : Int) : Nat → Int × Int × Int × Int
  | 0 => (0, -200, -200, -200)
  | k + 1 => @ite _ (allP (pset P n (-99 + (k : Int)) (P 5 n)) F T nT) (Classical.propDecidable _) (if (vst P F T nT n k).1 = 0 then ((vst P F T nT n k).1 + 1, -99 + (k : Int), -99 + (k : Int), -99 + (k : Int)) else ((vst P F T nT n k).1 + 1, (vst P F T nT n k).2.1, -99 + (k : Int), if abn (-99 + (k : Int)) (P 4 n) < abn (vst P F T nT n k).2.2.2 (P 4 n) then -99 + (k : Int) else (vst P F T nT n k).2.2.2)) (vst P F T nT n k)
theorem vst_yes {P : Pg} {F : Fo} {T : Ts} {nT n : Int} {k : Nat} (h : allP (pset P n (-99 + (k : Int)) (P 5 n)) F T nT) : vst P F T nT n (k + 1) = (if (vst P F T nT n k).1 = 0 then ((vst P F T nT n k).1 + 1, -99 + (k : Int), -99 + (k : Int), -99 + (k : Int)) else ((vst P F T nT n k).1 + 1, (vst P F T nT n k).2.1, -99 + (k : Int), if abn (-99 + (k : Int)) (P 4 n) < abn (vst P F T nT n k).2.2.2 (P 4 n) then -99 + (k : Int) else (vst P F T nT n k).2.2.2)) := if_pos h
theorem vst_no {P : Pg} {F : Fo} {T : Ts} {nT n : Int} {k : Nat} (h : ¬ allP (pset P n (-99 + (k : Int)) (P 5 n)) F T nT) : vst P F T nT n (k + 1) = vst P F T nT n k := if_neg h
theorem vst_le {P : Pg} {F : Fo} {T : Ts} {nT n : Int} : ∀ k : Nat, 0 ≤ (vst P F T nT n k).1 ∧ (vst P F T nT n k).1 ≤ k ∧ ((vst P F T nT n k).1 = 0 → vst P F T nT n k = (0, -200, -200, -200)) := by
  intro k
  induction k with
  | zero => exact ⟨Int.le_refl _, Int.le_refl _, fun _ => rfl⟩
  | succ k ih =>
    by_cases h : allP (pset P n (-99 + (k : Int)) (P 5 n)) F T nT
    · rw [vst_yes h]
      split
      · exact ⟨by simp only []; omega, by simp only []; omega, fun z => by simp only [] at z; omega⟩
      · exact ⟨by simp only []; omega, by simp only []; omega, fun z => by simp only [] at z; omega⟩
    · rw [vst_no h]; exact ⟨ih.1, by omega, ih.2.2⟩
def VI (P : Pg) (F : Fo) (T : Ts) (nT n : Int) (k : Nat) (M : pm_M) : Prop := gI M 141 4 = (vst P F T nT n k).1 ∧ (¬ (vst P F T nT n k).1 = 0 → gI M 141 5 = (vst P F T nT n k).2.1 ∧ gI M 141 6 = (vst P F T nT n k).2.2.1 ∧ gI M 141 7 = (vst P F T nT n k).2.2.2)
theorem VI.fr {P : Pg} {F : Fo} {T : Ts} {nT n : Int} {k : Nat} {M M' : pm_M} {p : Nat → Nat → Bool} (h : VI P F T nT n k M) (f : Fr p M M') (hp : p 141 4 = false ∧ p 141 5 = false ∧ p 141 6 = false ∧ p 141 7 = false) : VI P F T nT n k M' := by
  unfold VI
  rw [f.g hp.1, f.g hp.2.1, f.g hp.2.2.1, f.g hp.2.2.2]; exact h
def pVal (a i : Nat) : Bool := pTry a i || (a == 141 && (i == 3 || i == 4 || i == 5 || i == 6 || i == 7))
theorem pVal_20 : ∀ a i, 20 ≤ a → a < 36 → pVal a i = false := fun a i h1 h2 => by simp [pVal, pTry]; omega
theorem WF.val {P : Pg} (h : WF P) {n v m : Int} (hn : 0 ≤ n ∧ n < P 2 15) (h4 : P 3 n = 4) (hv : i32 v) : WF (pset P n v m) := h.set hn (fun z => by omega) (fun z => by omega) (fun z => by omega) (fun _ => hv)
theorem tryValues_r {P : Pg} {F : Fo} {T : Ts} {nT : Int} (hW : WF P) {M : pm_M} {K : pm_M → Prop} {n : Int} (hn : 0 ≤ n ∧ n < P 2 15) (h4 : P 3 n = 4) (hg : ¬ gone P n) (hS : Sm P M) (hF : Fm F M) (hT : CT T nT M) (hk : RKs P F T nT M) (hv : gI M 141 3 = n → VI P F T nT n 199 M)
    (hq : ∀ M', Fr pVal M M' → gI M' 141 3 = n → VI P F T nT n 199 M' → K M') : k10_tryValues n M K := by
  have h60 := hW.le
  have hnT := hT.2.1
  obtain ⟨-, xs, -⟩ := hW.x.1 n hn.1 hn.2
  have xk0 : 0 ≤ P 7 n := xs.1
  have xk1 : P 7 n < P 2 15 := xs.2.1
  apply k10_tryValues_r
  by_cases z : gI M 141 3 = n
  · rw [if_pos z]; exact hq M Fr.rf z (hv z)
  rw [if_neg z, hS 7 (by decide) (by decide), hS 4 (by decide) (by decide)]
  refine ⟨⟨hn.1, by omega⟩, ?_⟩
  have f1' : Fr pVal M (upI (upI M 141 3 n) 141 4 0) := (Fr.rf.up _ rfl).up _ rfl
  have e3 : gI (upI (upI M 141 3 n) 141 4 0) 141 3 = n := by rw [gI_nf _ _ (by decide), gI_eq]
  have i0 : VI P F T nT n 0 (upI (upI M 141 3 n) 141 4 0) := ⟨by rw [gI_eq]; rfl, fun y => absurd rfl y⟩
  have hrc := ((hk.2 (by omega)).2).2.2.2 (P 7 n) xk0 (by omega)
  have h5 : ¬ P 5 (P 7 n) = 1 := fun y => hg (Or.inr (Or.inl y))
  by_cases hb : bt (gI M 77 13) (P 7 n)
  case neg =>
    rw [if_neg (fun y => hb (bt_lcmp.mp y))]
    rw [hrc] at hb
    have all : ∀ k : Nat, vst P F T nT n k = (0, -200, -200, -200) := by
      intro k
      induction k with
      | zero => rfl
      | succ k ih => rw [vst_no (allP_prune hW (Dif.set hn.1) h5 hb), ih]
    refine hq _ f1' e3 ⟨?_, fun y => ?_⟩
    · rw [all, i0.1]; rfl
    · rw [all] at y; exact absurd rfl y
  rw [if_pos (bt_lcmp.mpr hb)]
  generalize upI (upI M 141 3 n) 141 4 0 = M1 at *
  have loop : ∀ (d k : Nat) (M2 : pm_M), k + d = 199 → Fr (fun a i => pVal a i || a == 4) M M2 → gI M2 141 3 = n → (∃ v, Sm (pset P n v (P 5 n)) M2) → VI P F T nT n k M2 → k10_tryValues_52 n (P 4 n) (-99 + (k : Int)) M2 K := by
    intro d
    induction d with
    | zero =>
      intro k M2 hd f2 z2 ⟨v, s2⟩ i2
      have ek : k = 199 := by omega
      subst ek
      apply k10_tryValues_52_r
      rw [if_neg (by omega)]
      have s3 : Sm P (upI M2 4 n (P 4 n)) := by
        have h := sm_4 (n := n) (v := P 4 n) s2
        rw [show (pset P n v (P 5 n)) 5 n = P 5 n by rw [pset5 hn.1 hn.1, if_pos rfl], pset_back hS] at h
        exact h
      have f3 : Fr (fun a i => pVal a i || a == 4) M (upI M2 4 n (P 4 n)) := f2.up _ (by simp)
      refine ⟨⟨hn.1, by omega⟩, hq _ (fr_back f3 (fun a i h => by
        simp only [Bool.or_eq_true, beq_iff_eq] at h
        rcases h with h | h
        · exact Or.inl h
        · exact Or.inr (Or.inl h)) hS s3) (by rw [gI_ne _ _ _ _ (by decide)]; exact z2) (i2.fr (p := pSet) (Fr.rf.up _ rfl) ⟨rfl, rfl, rfl, rfl⟩)⟩
    | succ d ih =>
      intro k M2 hd f2 z2 ⟨v, s2⟩ i2
      apply k10_tryValues_52_r
      rw [if_pos (by omega), w32_id (show -2147483648 ≤ -99 + (k : Int) + 1 ∧ -99 + (k : Int) + 1 < 2147483648 by omega)]
      refine ⟨⟨hn.1, by omega⟩, ?_⟩
      have s3 : Sm (pset P n (-99 + (k : Int)) (P 5 n)) (upI M2 4 n (-99 + (k : Int))) := by
        have h := sm_4 (n := n) (v := -99 + (k : Int)) s2
        rw [show (pset P n v (P 5 n)) 5 n = P 5 n by rw [pset5 hn.1 hn.1, if_pos rfl]] at h
        have e : pset (pset P n v (P 5 n)) n (-99 + (k : Int)) (P 5 n) = pset P n (-99 + (k : Int)) (P 5 n) := by
          funext a
          by_cases e4 : a = 4
          · subst e4
            funext j
            show (if j.toNat = n.toNat then -99 + (k : Int) else (if j.toNat = n.toNat then v else P 4 j)) = (if j.toNat = n.toNat then -99 + (k : Int) else P 4 j)
            split
            · rfl
            · rfl
          by_cases e5 : a = 5
          · subst e5
            funext j
            show (if j.toNat = n.toNat then P 5 n else (if j.toNat = n.toNat then P 5 n else P 5 j)) = (if j.toNat = n.toNat then P 5 n else P 5 j)
            split <;> rfl
          rw [pset_o e4 e5, pset_o e4 e5, pset_o e4 e5]
        rw [e] at h
        exact h
      have f3 : Fr (fun a i => pVal a i || a == 4) M (upI M2 4 n (-99 + (k : Int))) := f2.up _ (by simp)
      obtain ⟨m3, t3⟩ := pt_keep f3 ⟨rfl, rfl, rfl, rfl⟩ (fun a i h1 h2 => by rw [pVal_20 a i h1 h2]; simp; omega) hF hT
      have hWv := hW.val (n := n) (v := -99 + (k : Int)) (m := P 5 n) hn h4 ⟨by omega, by omega⟩
      have i3 : VI P F T nT n k (upI M2 4 n (-99 + (k : Int))) := i2.fr (p := pSet) (Fr.rf.up _ rfl) ⟨rfl, rfl, rfl, rfl⟩
      have z3 : gI (upI M2 4 n (-99 + (k : Int))) 141 3 = n := by rw [gI_ne _ _ _ _ (by decide)]; exact z2
      have kk : -99 + ((k + 1 : Nat) : Int) = -99 + (k : Int) + 1 := by omega
      refine allShownPass_r (nT := nT) hWv.r s3 m3 t3 ?_ ?_
      · intro ha M4 hg4
        have f34 := hg4.fr
        rw [if_neg (by decide)]
        have f4 : Fr (fun a i => pVal a i || a == 4) M M4 := f3.trans (f34.mono (fun a i h => by simp only [pVal, h, Bool.true_or]))
        have i4 : VI P F T nT n k M4 := i3.fr f34 ⟨rfl, rfl, rfl, rfl⟩
        have z4 : gI M4 141 3 = n := by rw [f34.g rfl]; exact z3
        have s4 := hg4.sm s3
        have hy := vst_yes ha
        obtain ⟨v0, v1, v2⟩ := vst_le (P := P) (F := F) (T := T) (nT := nT) (n := n) k
        apply k10_keepValue_r
        rw [i4.1, w32_id (show -2147483648 ≤ (vst P F T nT n k).1 + 1 ∧ (vst P F T nT n k).1 + 1 < 2147483648 by omega)]
        have fin : ∀ M5, Fr pVal M4 M5 → gI M5 141 3 = n → gI M5 141 4 = (vst P F T nT n (k + 1)).1 → gI M5 141 5 = (vst P F T nT n (k + 1)).2.1 → gI M5 141 6 = (vst P F T nT n (k + 1)).2.2.1 → gI M5 141 7 = (vst P F T nT n (k + 1)).2.2.2 → (∀ a, a ≠ 141 → gI M5 a = gI M4 a) → k10_tryValues_52 n (P 4 n) (-99 + (k : Int) + 1) M5 K := by
          intro M5 f5 y3 y4 y5 y6 y7 yo
          rw [← kk]
          refine ih (k + 1) M5 (by omega) (f4.trans (f5.mono (fun a i h => by simp only [h, Bool.true_or]))) y3 ⟨_, fun a a1 a2 => by rw [yo a (by omega)]; exact s4 a a1 a2⟩ ⟨y4, fun _ => ⟨y5, y6, y7⟩⟩
        by_cases m0 : (vst P F T nT n k).1 = 0
        · rw [if_pos m0, if_neg (Int.lt_irrefl _)]
          rw [if_pos m0] at hy
          refine fin _ ((((Fr.rf.up _ rfl).up _ rfl).up _ rfl).up _ rfl) ?_ ?_ ?_ ?_ ?_ (fun a ha => by rw [gI_upc _ _ _ ha, gI_upc _ _ _ ha, gI_upc _ _ _ ha, gI_upc _ _ _ ha])
          · rw [gI_nf _ _ (by decide), gI_nf _ _ (by decide), gI_nf _ _ (by decide), gI_nf _ _ (by decide)]; exact z4
          · rw [gI_eq, hy]
          · rw [gI_nf _ _ (by decide), gI_nf _ _ (by decide), gI_nf _ _ (by decide), gI_eq, hy]
          · rw [gI_nf _ _ (by decide), gI_eq, hy]
          · rw [gI_nf _ _ (by decide), gI_nf _ _ (by decide), gI_eq, hy]
        · rw [if_neg m0]
          rw [if_neg m0] at hy
          obtain ⟨w5, w6, w7⟩ := i4.2 m0
          rw [w7]
          show (if abn (-99 + (k : Int)) (P 4 n) < abn (vst P F T nT n k).2.2.2 (P 4 n) then _ else _)
          by_cases hl : abn (-99 + (k : Int)) (P 4 n) < abn (vst P F T nT n k).2.2.2 (P 4 n)
          · rw [if_pos hl]
            rw [if_pos hl] at hy
            refine fin _ (((Fr.rf.up _ rfl).up _ rfl).up _ rfl) ?_ ?_ ?_ ?_ ?_ (fun a ha => by rw [gI_upc _ _ _ ha, gI_upc _ _ _ ha, gI_upc _ _ _ ha])
            · rw [gI_nf _ _ (by decide), gI_nf _ _ (by decide), gI_nf _ _ (by decide)]; exact z4
            · rw [gI_eq, hy]
            · rw [gI_nf _ _ (by decide), gI_nf _ _ (by decide), gI_nf _ _ (by decide), hy]; exact w5
            · rw [gI_nf _ _ (by decide), gI_nf _ _ (by decide), gI_eq, hy]
            · rw [gI_nf _ _ (by decide), gI_eq, hy]
          · rw [if_neg hl]
            rw [if_neg hl] at hy
            refine fin _ ((Fr.rf.up _ rfl).up _ rfl) ?_ ?_ ?_ ?_ ?_ (fun a ha => by rw [gI_upc _ _ _ ha, gI_upc _ _ _ ha])
            · rw [gI_nf _ _ (by decide), gI_nf _ _ (by decide)]; exact z4
            · rw [gI_eq, hy]
            · rw [gI_nf _ _ (by decide), gI_nf _ _ (by decide), hy]; exact w5
            · rw [gI_nf _ _ (by decide), gI_eq, hy]
            · rw [gI_nf _ _ (by decide), gI_nf _ _ (by decide), hy]; exact w7
      · intro ha M4 hg4
        have f34 := hg4.fr
        rw [if_pos rfl]
        have f4 : Fr (fun a i => pVal a i || a == 4) M M4 := f3.trans (f34.mono (fun a i h => by simp only [pVal, h, Bool.true_or]))
        have i4 : VI P F T nT n k M4 := i3.fr f34 ⟨rfl, rfl, rfl, rfl⟩
        rw [← kk]
        refine ih (k + 1) M4 (by omega) f4 (by rw [f34.g rfl]; exact z3) ⟨_, hg4.sm s3⟩ ?_
        unfold VI
        rw [vst_no ha]; exact i4
  have s1 : Sm P M1 := f1'.sm hS (fun a i h1 h2 => by simp [pVal, pTry]; omega)
  refine loop 199 0 M1 rfl (f1'.mono (fun a i h => by simp only [h, Bool.true_or])) e3 ⟨P 4 n, ?_⟩ i0
  have hb2 := pset_back (v := P 4 n) (m := P 5 n) hS (n := n)
  intro a a1 a2
  rw [s1 a a1 a2]
  by_cases e4 : a = 4
  · subst e4
    funext j
    show P 4 j = (if j.toNat = n.toNat then P 4 n else P 4 j)
    by_cases h : j.toNat = n.toNat
    · rw [if_pos h, ← hS 4 (by decide) (by decide)]; unfold gI; rw [h]
    · rw [if_neg h]
  by_cases e5 : a = 5
  · subst e5
    funext j
    show P 5 j = (if j.toNat = n.toNat then P 5 n else P 5 j)
    by_cases h : j.toNat = n.toNat
    · rw [if_pos h, ← hS 5 (by decide) (by decide)]; unfold gI; rw [h]
    · rw [if_neg h]
  rw [pset_o e4 e5]

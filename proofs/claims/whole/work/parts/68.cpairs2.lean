-- needs 30 31 32 33a 33b 33c 33d 33e 33f 33g 33h 33i 33j 40 41 42 43 44 45 46 50 51 52 53 54 55 56 57 60 61 63 66 67
/-! the class seeks a pair: the second change, the first one -/
def PF (P : Pg) (F : Fo) (T : Ts) (nT : Int) (o : Option (Int × Int × Int × Int)) (M : pm_M) : Prop := (o = none → gI M 138 13 = 0) ∧ ∀ n c k d, o = some (n, c, k, d) → gI M 138 13 = 1 ∧ gI M 138 8 = n ∧ gI M 138 9 = c ∧ gI M 138 10 = k ∧ gI M 138 11 = d ∧ gI M 138 12 = cn (psB (pc2 P n c k d) F T 1) nT.toNat
def pPr (a i : Nat) : Bool := pTry a i || (a == 138 && (i == 8 || i == 9 || i == 10 || i == 11 || i == 12 || i == 13))
theorem pPr_2 : ∀ a i, 2 ≤ a → a < 18 → pPr a i = false := fun a i h1 h2 => by simp [pPr, pTry]; omega
theorem pPr_20 : ∀ a i, 20 ≤ a → a < 36 → pPr a i = false := fun a i h1 h2 => by simp [pPr, pTry]; omega
theorem PF.fr {P : Pg} {F : Fo} {T : Ts} {nT : Int} {o : Option (Int × Int × Int × Int)} {M M' : pm_M} {p : Nat → Nat → Bool} (h : PF P F T nT o M) (f : Fr p M M') (hp : ∀ i, p 138 i = false) : PF P F T nT o M' := by
  unfold PF
  rw [f.c hp]; exact h
theorem PF.none' {P : Pg} {F : Fo} {T : Ts} {nT : Int} {o : Option (Int × Int × Int × Int)} {M : pm_M} (h : PF P F T nT o M) : (o = none ∧ gI M 138 13 = 0) ∨ (o ≠ none ∧ gI M 138 13 = 1) := by
  cases o with
  | none => exact Or.inl ⟨rfl, h.1 rfl⟩
  | some x => exact Or.inr ⟨by simp, (h.2 x.1 x.2.1 x.2.2.1 x.2.2.2 rfl).1⟩
theorem chg_1 {P : Pg} (hW : WF P) {n c k : Int} (hn : 0 ≤ n ∧ n < P 2 15) (hg : ¬ gone P n) (hk : 0 ≤ k ∧ k < P 2 15) (hne : k ≠ n) : (gone (pch P n c) k → chg (pch P n c) k = 0) ∧ (¬ gone (pch P n c) k → chg (pch P n c) k = chg P k ∧ ¬ gone P k) := by
  refine ⟨fun h => chg_gone h, fun h => ?_⟩
  have h' : ¬ gone P k := fun z => h (gone_mono hW hn hg hk z)
  rw [chg_not h, chg_not h', (nv_ch (d := 0) hn.1 hk.1 hne).2.2]; exact ⟨rfl, h'⟩
theorem tryOthers_r {P : Pg} {F : Fo} {T : Ts} {nT : Int} (hW : WF P) {M : pm_M} {K : pm_M → Prop} {n c x : Int} (hn : 0 ≤ n ∧ n < P 2 15) (hc : 0 ≤ c ∧ c < chg P n) (hS : Sm (pch P n c) M) (hF : Fm F M) (hT : CT T nT M)
    (hno : ∀ k d, 0 ≤ k → k < P 2 15 → 0 ≤ d → d < chg P k → ¬ allP (pch P k d) F T nT) (hsu : ∀ s, 0 ≤ s → s < 60 → (bt (gI M 138 7) s ↔ Susp P F T nT s)) (hwf : WFs P F T nT (P 2 15) M) (hx : RA (pch P n c) F T nT x) (h13 : gI M 138 13 = 0)
    (hq : ∀ M', Fr pPr M M' → PF P F T nT (f2 P F T nT n c) M' → K M') : k3_tryOthers n c x M K := by
  have h60 := hW.le
  obtain ⟨hg, hc0, hcn⟩ := chg_nch hc
  have hW1 := hW.ch hn ⟨hc0, hcn⟩
  have hnno : ¬ allP (pch P n c) F T nT := hno n c hn.1 hn.2 hc.1 hc.2
  obtain ⟨-, xsn, -⟩ := hW.x.1 n hn.1 hn.2
  have xn0 : 0 ≤ P 7 n := xsn.1
  have xn1 : P 7 n < P 2 15 := xsn.2.1
  have xnle : P 7 n ≤ n := (hW.x.1 n hn.1 hn.2).2.2.1
  apply k3_tryOthers_r
  rw [w32_id (show -2147483648 ≤ n + 1 ∧ n + 1 < 2147483648 by omega)]
  -- found: all is over
  have exit5 : ∀ k M', gI M' 138 13 = 1 → K M' → k3_tryOthers_5 n c x k M' K := by
    intro k M' h hK
    apply k3_tryOthers_5_r
    rw [h]
    split
    · rw [if_neg (by decide)]; exact hK
    · exact hK
  refine upto (n := P 2 15) (I := fun k M2 => Fr pPr M M2 ∧ Sm (pch P n c) M2 ∧ gI M2 138 13 = 0 ∧ n < k ∧ ∀ j, 0 ≤ j → j < k → f3 P F T nT n c j = none) (Q := fun k M2 => k3_tryOthers_5 n c x k M2 K) ?_ ?_ (n + 1) M (by omega) (by omega) ⟨Fr.rf, hS, h13, by omega, fun j j0 j1 => if_neg (fun z => by omega)⟩
  · intro M2 ⟨f2', s2, z2, _, h2⟩
    apply k3_tryOthers_5_r
    rw [s2 2 (by decide) (by decide)]
    show (if P 2 15 < P 2 15 then _ else _)
    rw [if_neg (by omega)]
    have e : f2 P F T nT n c = none := (o1_none _).mpr (fun i i0 i1 => h2 i i0 (by omega))
    exact hq M2 f2' ⟨fun _ => z2, fun a b c' d h => by rw [e] at h; simp at h⟩
  · intro k M2 k0 k1 ⟨f2', s2, z2, hnk, h2⟩ ih
    have hk : 0 ≤ k ∧ k < P 2 15 := ⟨k0, k1⟩
    have hne : k ≠ n := by omega
    obtain ⟨-, xs, -⟩ := hW.x.1 k k0 k1
    have xk0 : 0 ≤ P 7 k := xs.1
    have xk1 : P 7 k < P 2 15 := xs.2.1
    obtain ⟨m2, t2⟩ := pt_keep f2' ⟨rfl, rfl, rfl, rfl⟩ pPr_20 hF hT
    have wk : w32 (k + 1) = k + 1 := w32_id (by omega)
    obtain ⟨g1, g2⟩ := chg_1 (c := c) hW hn hg hk hne
    -- no second change at this node
    have next : f3 P F T nT n c k = none → ∀ M3, Fr pPr M M3 → Sm (pch P n c) M3 → gI M3 138 13 = 0 → k3_tryOthers_5 n c x (k + 1) M3 K := by
      intro h3 M3 f3' s3 z3
      refine ih M3 ⟨f3', s3, z3, by omega, fun j j0 j1 => ?_⟩
      by_cases e : j = k
      · subst e; exact h3
      · exact h2 j j0 (by omega)
    have goneN : gone (pch P n c) k → ∀ d, 0 ≤ d → d < chg P k → f4 P F T nT n c k d = none := by
      intro hg1 d d0 d1
      refine f4_no (gone_pair hW hn ⟨hc0, hcn⟩ hk hne (chg_nch ⟨d0, d1⟩).1 hg1 hnno)
    have f3none : (∀ d, 0 ≤ d → d < chg P k → f4 P F T nT n c k d = none) → f3 P F T nT n c k = none := by
      intro h
      unfold f3
      by_cases e : n < k ∧ Susp P F T nT (P 7 k)
      · rw [if_pos e]; exact (o1_none _).mpr (fun i i0 i1 => h i i0 (by omega))
      · rw [if_neg e]
    apply k3_tryOthers_5_r
    rw [s2 2 (by decide) (by decide)]
    show (if k < P 2 15 then _ else _)
    rw [if_pos k1, z2, if_pos rfl, wk, s2 7 (by decide) (by decide), s2 4 (by decide) (by decide), s2 5 (by decide) (by decide), f2'.g rfl]
    refine ⟨⟨k0, by omega⟩, ?_⟩
    show (if pm_lcmp (pm_land (pm_lshr (pm_land (gI M 138 7) x) (P 7 k)) 1) 1 = 0 then _ else _)
    by_cases hb : bt (pm_land (gI M 138 7) x) (P 7 k)
    case neg =>
      rw [if_neg (fun z => hb (bt_lcmp.mp z))]
      rw [bt_and xk0 (by omega), hsu _ xk0 (by omega), hx _ xk0 (by omega)] at hb
      refine next ?_ M2 f2' s2 z2
      by_cases hsp : Susp P F T nT (P 7 k)
      · refine f3none (fun d d0 d1 => ?_)
        by_cases hg1 : gone (pch P n c) k
        · exact goneN hg1 d d0 d1
        · refine f4_no (allP_prune hW1 (Dif.set (P := pch P n c) k0) (fun z => hg1 (Or.inr (Or.inl z))) (fun z => hb ⟨hsp, z⟩))
      · exact if_neg (fun z => hsp z.2)
    rw [if_pos (bt_lcmp.mpr hb)]
    rw [bt_and xk0 (by omega), hsu _ xk0 (by omega)] at hb
    have hsp := hb.1
    refine changeCount_r hW1 s2 hk ?_
    have c8 := chg_le (P := pch P n c) (n := k)
    have c0 := chg_nn hW1 hk
    refine upto (n := chg (pch P n c) k) (I := fun d M3 => Fr pPr M M3 ∧ Sm (pch P n c) M3 ∧ gI M3 138 13 = 0 ∧ ∀ e, 0 ≤ e → e < d → f4 P F T nT n c k e = none) (Q := fun d M3 => k3_tryOthers_80 n c x k (pch P n c 4 k) (pch P n c 5 k) (chg (pch P n c) k) d M3 K) ?_ ?_ 0 M2 (by decide) c0 ⟨f2', s2, z2, fun e e0 e1 => by omega⟩
    · intro M3 ⟨f3', s3, z3, h3⟩
      apply k3_tryOthers_80_r
      rw [if_neg (by omega), wk]
      refine next (f3none (fun d d0 d1 => ?_)) M3 f3' s3 z3
      by_cases hg1 : gone (pch P n c) k
      · exact goneN hg1 d d0 d1
      · exact h3 d d0 (by have := (g2 hg1).1; omega)
    · intro d M3 d0 d1 ⟨f3', s3, z3, h3⟩ ihd
      have hg1 : ¬ gone (pch P n c) k := fun z => by rw [g1 z] at d1; omega
      obtain ⟨ge, hgk⟩ := g2 hg1
      have hdk : 0 ≤ d ∧ d < chg P k := ⟨d0, by omega⟩
      obtain ⟨-, hd0, hdn⟩ := chg_nch hdk
      obtain ⟨m3, t3⟩ := pt_keep f3' ⟨rfl, rfl, rfl, rfl⟩ pPr_20 hF hT
      have wd : w32 (d + 1) = d + 1 := w32_id (by omega)
      obtain ⟨w1, w2, w3⟩ := hwf k k0 k1 hsp
      have e140 : gI M3 140 k = gI M 140 k := f3'.g rfl
      have e139 : gI M3 139 (gI M 140 k + d) = gI M 139 (gI M 140 k + d) := f3'.g rfl
      have wi : w32 (gI M 140 k + d) = gI M 140 k + d := w32_id (by omega)
      have hra := w3 d d0 (by omega)
      have hd4 : ∀ M4, f4 P F T nT n c k d = none → Fr pPr M M4 → Sm (pch P n c) M4 → gI M4 138 13 = 0 → k3_tryOthers_80 n c x k (pch P n c 4 k) (pch P n c 5 k) (chg (pch P n c) k) (d + 1) M4 K := by
        intro M4 h4 f4' s4 z4
        refine ihd M4 ⟨f4', s4, z4, fun e e0 e1 => ?_⟩
        by_cases w : e = d
        · subst w; exact h4
        · exact h3 e e0 (by omega)
      apply k3_tryOthers_80_r
      rw [if_pos d1, z3, if_pos rfl, e140, wi, e139, s3 7 (by decide) (by decide), wd]
      refine ⟨⟨k0, by omega⟩, ⟨by omega, by omega⟩, ⟨hn.1, by omega⟩, ?_⟩
      show (if pm_lcmp (pm_land (pm_lshr (gI M 139 (gI M 140 k + d)) (P 7 n)) 1) 1 = 0 then _ else _)
      have hWk := hW.ch hk ⟨hd0, hdn⟩
      by_cases hbn : bt (gI M 139 (gI M 140 k + d)) (P 7 n)
      case neg =>
        rw [if_neg (fun z => hbn (bt_lcmp.mp z))]
        rw [hra _ xn0 (by omega)] at hbn
        refine hd4 M3 (f4_no ?_) f3' s3 z3
        rw [pc2_comm hn.1 k0 hne]
        refine allP_prune hWk (Dif.set (P := pch P k d) hn.1) (fun z => ?_) hbn
        have hz : (pch P k d) 5 (P 7 n) = 1 := z
        rw [(ch4 k0 xn0 (by omega)).2] at hz
        exact hg (Or.inr (Or.inl hz))
      rw [if_pos (bt_lcmp.mpr hbn)]
      refine apply_r hW1 s3 hk ⟨d0, d1⟩ (fun M5 f5 s5 => ?_)
      rw [pch_ch hn.1 k0 hne] at s5
      have hW2 := hW.ch2 hn ⟨hc0, hcn⟩ hk hne ⟨hd0, hdn⟩
      obtain ⟨m5, t5⟩ := pt_keep f5 ⟨rfl, rfl, rfl, rfl⟩ (fun a i h1 h2 => by simp [pSet]; omega) m3 t3
      have f35 : Fr (fun a i => pPr a i || pSet a i) M M5 := (f3'.mono (fun a i h => by simp only [h, Bool.true_or])).trans (f5.mono (fun a i h => by simp only [h, Bool.or_true]))
      -- taken out again
      have back : ∀ M6, Fr (fun a i => pPr a i || pSet a i) M M6 → Sm (pc2 P n c k d) M6 → Fr pPr M (upI (upI M6 4 k (pch P n c 4 k)) 5 k (pch P n c 5 k)) ∧ Sm (pch P n c) (upI (upI M6 4 k (pch P n c 4 k)) 5 k (pch P n c 5 k)) := by
        intro M6 f6 s6
        have s7 : Sm (pch P n c) (upI (upI M6 4 k (pch P n c 4 k)) 5 k (pch P n c 5 k)) := by
          have h := sm_45 (n := k) (v := pch P n c 4 k) (m := pch P n c 5 k) s6
          unfold pc2 at h
          rw [pset_back s3] at h
          exact h
        have f7 : Fr (fun a i => pPr a i || pSet a i) M (upI (upI M6 4 k (pch P n c 4 k)) 5 k (pch P n c 5 k)) := (f6.up _ (by simp [pSet])).up _ (by simp [pSet])
        exact ⟨fr_back f7 (fun a i h => by simp only [Bool.or_eq_true, pSet, beq_iff_eq] at h; exact h) hS s7, s7⟩
      refine allShownPass_r (nT := nT) hW2.r s5 m5 t5 ?_ ?_
      · intro ha M6 hg6
        have f6 := hg6.fr
        rw [if_neg (by decide)]
        generalize hM7 : upI (upI (upI (upI (upI M6 138 13 1) 138 8 n) 138 9 c) 138 10 k) 138 11 d = M7
        have f67 : Fr pPr M6 M7 := by rw [← hM7]; exact ((((Fr.rf.up _ rfl).up _ rfl).up _ rfl).up _ rfl).up _ rfl
        have s7 : Sm (pc2 P n c k d) M7 := f67.sm (hg6.sm s5) pPr_2
        obtain ⟨m6, t6⟩ := pt_keep f6 ⟨rfl, rfl, rfl, rfl⟩ (fun a i h1 h2 => by simp [pTry]; omega) m5 t5
        obtain ⟨m7, t7⟩ := pt_keep f67 ⟨rfl, rfl, rfl, rfl⟩ pPr_20 m6 t6
        refine countPassing_r (b := 1) hW2.r (Or.inr rfl) s7 m7 t7 (fun M8 hR8 => ?_)
        have f78 := hR8.fr
        have f8 : Fr (fun a i => pPr a i || pSet a i) M (upI M8 138 12 (cn (psB (pc2 P n c k d) F T 1) nT.toNat)) := by
          refine Fr.up ?_ _ rfl
          refine ((f35.trans (f6.mono ?_)).trans (f67.mono ?_)).trans (f78.mono ?_)
          · intro a i h; simp only [pPr, h, Bool.true_or]
          · intro a i h; simp only [h, Bool.true_or]
          · intro a i h
            simp only [pPr, pTry, pRun, Bool.or_eq_true, Bool.and_eq_true, Bool.not_eq_true', Bool.or_eq_false_iff, beq_eq_false_iff_ne, beq_iff_eq] at h ⊢
            omega
        have s8 : Sm (pc2 P n c k d) (upI M8 138 12 (cn (psB (pc2 P n c k d) F T 1) nT.toNat)) := Fr.sm (p := pPr) (Fr.rf.up _ rfl) (hR8.sm s7) pPr_2
        obtain ⟨f9, s9⟩ := back _ f8 s8
        have o9 : ∀ i, i ≠ 12 → 0 ≤ i → gI (upI (upI (upI M8 138 12 (cn (psB (pc2 P n c k d) F T 1) nT.toNat)) 4 k (pch P n c 4 k)) 5 k (pch P n c 5 k)) 138 i = gI M7 138 i := fun i hi hi0 => by
          rw [gI_ne _ _ _ _ (by decide), gI_ne _ _ _ _ (by decide), gI_nf _ _ (by omega), f78.g (by simp [pRun])]
        have q13 : gI M7 138 13 = 1 := by rw [← hM7, gI_nf _ _ (by decide), gI_nf _ _ (by decide), gI_nf _ _ (by decide), gI_nf _ _ (by decide), gI_eq]
        have q8 : gI M7 138 8 = n := by rw [← hM7, gI_nf _ _ (by decide), gI_nf _ _ (by decide), gI_nf _ _ (by decide), gI_eq]
        have q9 : gI M7 138 9 = c := by rw [← hM7, gI_nf _ _ (by decide), gI_nf _ _ (by decide), gI_eq]
        have q10 : gI M7 138 10 = k := by rw [← hM7, gI_nf _ _ (by decide), gI_eq]
        have q11 : gI M7 138 11 = d := by rw [← hM7, gI_eq]
        have q12 : gI (upI (upI (upI M8 138 12 (cn (psB (pc2 P n c k d) F T 1) nT.toNat)) 4 k (pch P n c 4 k)) 5 k (pch P n c 5 k)) 138 12 = cn (psB (pc2 P n c k d) F T 1) nT.toNat := by
          rw [gI_ne _ _ _ _ (by decide), gI_ne _ _ _ _ (by decide), gI_eq]
        have e3 : f3 P F T nT n c k = some (n, c, k, d) := by
          unfold f3
          rw [if_pos ⟨hnk, hsp⟩]
          exact o1_some _ d d0 (by omega) (fun j j0 j1 => h3 j j0 j1) (f4_yes ha)
        have e2 : f2 P F T nT n c = some (n, c, k, d) := o1_some _ k k0 (by omega) (fun j j0 j1 => h2 j j0 j1) e3
        have hK := hq _ f9 ⟨fun z => by rw [e2] at z; simp at z, fun a b c' d' h => by
          rw [e2] at h
          simp only [Option.some.injEq, Prod.mk.injEq] at h
          obtain ⟨h1, h2, h3, h4⟩ := h
          subst h1 h2 h3 h4
          rw [o9 13 (by decide) (by decide), o9 8 (by decide) (by decide), o9 9 (by decide) (by decide), o9 10 (by decide) (by decide), o9 11 (by decide) (by decide)]
          exact ⟨q13, q8, q9, q10, q11, q12⟩⟩
        have z9 := (o9 13 (by decide) (by decide)).trans q13
        have ex := exit5 (w32 (k + 1)) _ z9 hK
        apply k3_tryOthers_80_r
        rw [z9]
        split
        · rw [if_neg (by decide)]; exact ex
        · exact ex
      · intro ha M6 hg6
        have f6 := hg6.fr
        rw [if_pos rfl]
        have f6' : Fr (fun a i => pPr a i || pSet a i) M M6 := f35.trans (f6.mono (fun a i h => by simp only [pPr, h, Bool.true_or]))
        obtain ⟨f9, s9⟩ := back M6 f6' (hg6.sm s5)
        refine hd4 _ (f4_no ha) f9 s9 ?_
        rw [gI_ne _ _ _ _ (by decide), gI_ne _ _ _ _ (by decide), f6.g rfl, f5.g rfl]; exact z3
theorem tryFirst_r {P : Pg} {F : Fo} {T : Ts} {nT : Int} (hW : WF P) {M : pm_M} {K : pm_M → Prop} {n : Int} (hn : 0 ≤ n ∧ n < P 2 15) (hS : Sm P M) (hF : Fm F M) (hT : CT T nT M)
    (hno : ∀ k d, 0 ≤ k → k < P 2 15 → 0 ≤ d → d < chg P k → ¬ allP (pch P k d) F T nT) (hsu : ∀ s, 0 ≤ s → s < 60 → (bt (gI M 138 7) s ↔ Susp P F T nT s)) (hwf : WFs P F T nT (P 2 15) M) (hsp : Susp P F T nT (P 7 n)) (h13 : gI M 138 13 = 0)
    (hq : ∀ M', Fr pPr M M' → PF P F T nT (f1 P F T nT n) M' → K M') : k3_tryFirst n M K := by
  have h60 := hW.le
  have c8 := chg_le (P := P) (n := n)
  have c0 := chg_nn hW hn
  have hf1 : f1 P F T nT n = o1 (f2 P F T nT n) (chg P n).toNat := if_pos hsp
  rw [hf1] at hq
  apply k3_tryFirst_r
  refine ⟨⟨hn.1, by omega⟩, ?_⟩
  refine changeCount_r hW hS hn ?_
  rw [hS 4 (by decide) (by decide), hS 5 (by decide) (by decide)]
  refine upto (n := chg P n) (I := fun c M2 => Fr pPr M M2 ∧ Sm P M2 ∧ gI M2 138 13 = 0 ∧ ∀ e, 0 ≤ e → e < c → f2 P F T nT n e = none) (Q := fun c M2 => k3_tryFirst_33 n (P 4 n) (P 5 n) (chg P n) c M2 K) ?_ ?_ 0 M (by decide) c0 ⟨Fr.rf, hS, h13, fun e e0 e1 => by omega⟩
  · intro M2 ⟨f2', s2, z2, h2⟩
    apply k3_tryFirst_33_r
    rw [if_neg (by omega)]
    have e : o1 (f2 P F T nT n) (chg P n).toNat = none := (o1_none _).mpr (fun i i0 i1 => h2 i i0 (by omega))
    rw [e] at hq
    exact hq M2 f2' ⟨fun _ => z2, fun a b c' d h => by simp at h⟩
  · intro c M2 k0 k1 ⟨f2', s2, z2, h2⟩ ih
    obtain ⟨m2, t2⟩ := pt_keep f2' ⟨rfl, rfl, rfl, rfl⟩ pPr_20 hF hT
    have wc : w32 (c + 1) = c + 1 := w32_id (by omega)
    apply k3_tryFirst_33_r
    rw [if_pos k1, z2, if_pos rfl, wc]
    refine apply_r hW s2 hn ⟨k0, k1⟩ (fun M3 f3' s3 => ?_)
    obtain ⟨m3, t3⟩ := pt_keep f3' ⟨rfl, rfl, rfl, rfl⟩ (fun a i h1 h2 => by simp [pSet]; omega) m2 t2
    obtain ⟨w1, w2, w3⟩ := hwf n hn.1 hn.2 hsp
    have o3 : ∀ a i, a = 138 ∧ i = 7 ∨ a = 139 ∨ a = 140 → gI M3 a i = gI M a i := by
      intro a i ha
      rw [f3'.g (by rcases ha with ⟨rfl, rfl⟩ | rfl | rfl <;> rfl)]
      exact f2'.g (by rcases ha with ⟨rfl, rfl⟩ | rfl | rfl <;> rfl)
    have e140 : gI M3 140 n = gI M 140 n := o3 _ _ (by simp)
    have wi : w32 (gI M 140 n + c) = gI M 140 n + c := w32_id (by omega)
    rw [e140, wi, o3 139 _ (by simp)]
    refine ⟨⟨hn.1, by omega⟩, ⟨by omega, by omega⟩, ?_⟩
    refine tryOthers_r hW hn ⟨k0, k1⟩ s3 m3 t3 hno (fun s s0 s1 => by rw [o3 138 7 (by simp)]; exact hsu s s0 s1) (fun k q0 q1 hk => ?_) (w3 c k0 k1) (by rw [f3'.g rfl]; exact z2) (fun M4 f4' hP4 => ?_)
    · rw [o3 140 k (by simp)]
      obtain ⟨a1, a2, a3⟩ := hwf k q0 q1 hk
      refine ⟨a1, a2, fun d d0 d1 => ?_⟩
      rw [o3 139 _ (by simp)]; exact a3 d d0 d1
    · have s4 : Sm (pch P n c) M4 := f4'.sm s3 pPr_2
      have s5 : Sm P (upI (upI M4 4 n (P 4 n)) 5 n (P 5 n)) := by
        have h := sm_45 (n := n) (v := P 4 n) (m := P 5 n) s4
        unfold pch at h
        rw [pset_back s2] at h
        exact h
      have f5 : Fr pPr M (upI (upI M4 4 n (P 4 n)) 5 n (P 5 n)) := by
        have g1 : Fr (fun a i => pPr a i || pSet a i) M (upI (upI M4 4 n (P 4 n)) 5 n (P 5 n)) := ((((f2'.mono (fun a i h => by simp only [h, Bool.true_or])).trans (f3'.mono (fun a i h => by simp only [h, Bool.or_true]))).trans (f4'.mono (fun a i h => by simp only [h, Bool.true_or]))).up _ (by simp [pSet])).up _ (by simp [pSet])
        exact fr_back g1 (fun a i h => by simp only [Bool.or_eq_true, pSet, beq_iff_eq] at h; exact h) hS s5
      have hP5 : PF P F T nT (f2 P F T nT n c) (upI (upI M4 4 n (P 4 n)) 5 n (P 5 n)) := hP4.fr (p := pSet) ((Fr.rf.up _ rfl).up _ rfl) (fun _ => rfl)
      rcases hP5.none' with ⟨e, z5⟩ | ⟨e, z5⟩
      · refine ih _ ⟨f5, s5, z5, fun j j0 j1 => ?_⟩
        by_cases w : j = c
        · subst w; exact e
        · exact h2 j j0 (by omega)
      · cases hx : f2 P F T nT n c with
        | none => exact absurd hx e
        | some y =>
          have e2 : o1 (f2 P F T nT n) (chg P n).toNat = some y := o1_some _ c k0 (by omega) (fun j j0 j1 => h2 j j0 j1) hx
          rw [hx] at hP5
          rw [e2] at hq
          have hK := hq _ f5 hP5
          apply k3_tryFirst_33_r
          rw [z5]
          split
          · rw [if_neg (by decide)]; exact hK
          · exact hK

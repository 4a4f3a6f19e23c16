/-! tests: the other reader's lines -/
theorem rw7 {c : Nat} {L : Int → Int} {n : Int} {s : Sc} {M : pm_M} {K : Int → pm_M → Prop} (hc : 1 ≤ c) (h : LVt L n s M) (hK : K (if wdb (ub L) s (pm_txt 7) = true then 1 else 0) M) : k12_isWord c 116 101 115 116 0 0 M K := rword_r (w := pm_txt 7) hc h.1 h.2.1 h.2.2.2.2.1 h.2.2.2.2.2 (by decide) (by decide) (by decide) hK
theorem rw8 {c : Nat} {L : Int → Int} {n : Int} {s : Sc} {M : pm_M} {K : Int → pm_M → Prop} (hc : 1 ≤ c) (h : LVt L n s M) (hK : K (if wdb (ub L) s (pm_txt 8) = true then 1 else 0) M) : k12_isWord c 103 105 118 101 115 0 M K := rword_r (w := pm_txt 8) hc h.1 h.2.1 h.2.2.2.2.1 h.2.2.2.2.2 (by decide) (by decide) (by decide) hK
theorem rw9 {c : Nat} {L : Int → Int} {n : Int} {s : Sc} {M : pm_M} {K : Int → pm_M → Prop} (hc : 1 ≤ c) (h : LVt L n s M) (hK : K (if wdb (ub L) s (pm_txt 9) = true then 1 else 0) M) : k12_isWord c 104 101 108 100 0 0 M K := rword_r (w := pm_txt 9) hc h.1 h.2.1 h.2.2.2.2.1 h.2.2.2.2.2 (by decide) (by decide) (by decide) hK
def TRw (M : pm_M) (k : Int) (t : TRow) : Prop := gI M 155 (5 * k) = t.1 ∧ gI M 155 (5 * k + 1) = t.2.1 ∧ gI M 155 (5 * k + 2) = t.2.2.1 ∧ gI M 155 (5 * k + 3) = t.2.2.2.1 ∧ gI M 155 (5 * k + 4) = t.2.2.2.2
theorem d76 {u : Int → Int} {N : Int} {s : Sc} (hS : SK N s) (h : ¬ (t6 u N s).2.2.2.2 = 0) : t7 u N s = t6 u N s := by
  have h6 : SK N (t6 u N s) := hS.txW.tnS.tnS.tnS.txW.tnS
  unfold t7
  rw [if_neg (fun y => by have := (wdb_iff.mp y).1; have := h6.2.1 h; omega)]
theorem d75 {u : Int → Int} {N : Int} {s : Sc} (hS : SK N s) (h : ¬ (t5 u N s).2.2.2.2 = 0) : t7 u N s = t5 u N s := by
  have h5 : SK N (t5 u N s) := hS.txW.tnS.tnS.tnS.txW
  have e : t6 u N s = t5 u N s := dd_S h (h5.2.1 h)
  rw [d76 hS (by rw [e]; exact h), e]
theorem d74 {u : Int → Int} {N : Int} {s : Sc} (hS : SK N s) (h : ¬ (t4 u N s).2.2.2.2 = 0) : t7 u N s = t4 u N s := by
  have h4 : SK N (t4 u N s) := hS.txW.tnS.tnS.tnS
  have e : t5 u N s = t4 u N s := dd_W h (h4.2.1 h)
  rw [d75 hS (by rw [e]; exact h), e]
theorem d73 {u : Int → Int} {N : Int} {s : Sc} (hS : SK N s) (h : ¬ (t3 u N s).2.2.2.2 = 0) : t7 u N s = t3 u N s := by
  have h3 : SK N (t3 u N s) := hS.txW.tnS.tnS
  have e : t4 u N s = t3 u N s := dd_S h (h3.2.1 h)
  rw [d74 hS (by rw [e]; exact h), e]
theorem d72 {u : Int → Int} {N : Int} {s : Sc} (hS : SK N s) (h : ¬ (t2 u N s).2.2.2.2 = 0) : t7 u N s = t2 u N s := by
  have h2 : SK N (t2 u N s) := hS.txW.tnS
  have e : t3 u N s = t2 u N s := dd_S h (h2.2.1 h)
  rw [d73 hS (by rw [e]; exact h), e]
theorem d71 {u : Int → Int} {N : Int} {s : Sc} (hS : SK N s) (h : ¬ (t1 u N s).2.2.2.2 = 0) : t7 u N s = t1 u N s := by
  have h1 : SK N (t1 u N s) := hS.txW
  have e : t2 u N s = t1 u N s := dd_S h (h1.2.1 h)
  rw [d72 hS (by rw [e]; exact h), e]
theorem rline_r {c : Nat} (hc : 3 ≤ c) {L : Int → Int} {N : Int} {k : Nat} (hk : k ≤ 16) {s : Sc} {M : pm_M} {K : Int → pm_M → Prop} (h : LVt L N s M)
    (hA : (tlS (ub L) N k s).2.2.2.2 = 0 → ∀ M', Fr (qX (5 * (k : Int)) (5 * (k : Int) + 5)) M M' → LVt L N (tlS (ub L) N k s) M' → TRw M' (k : Int) (tlR (ub L) N s) → K 1 M') (hD : ¬ (tlS (ub L) N k s).2.2.2.2 = 0 → OT L N (tlS (ub L) N k s) M K) : k12_testLine c (k : Int) M K := by
  have hS := h.2.2.2.2.1
  have h0 := h.2.2.2.1
  have w5 : w32 (5 * (k : Int)) = 5 * (k : Int) := w32_id (by omega)
  have w1 : w32 (5 * (k : Int) + 1) = 5 * (k : Int) + 1 := w32_id (by omega)
  have w2 : w32 (5 * (k : Int) + 2) = 5 * (k : Int) + 2 := w32_id (by omega)
  have w3 : w32 (5 * (k : Int) + 3) = 5 * (k : Int) + 3 := w32_id (by omega)
  have w4 : w32 (5 * (k : Int) + 4) = 5 * (k : Int) + 4 := w32_id (by omega)
  apply k12_testLine_r
  rw [w5, w1, w2, w3, w4]
  refine ⟨1, c - 1, by omega, rw7 (Nat.le_refl _) h ?_⟩
  by_cases q7' : wdb (ub L) s (pm_txt 7) = true
  case neg =>
    rw [if_neg q7', if_pos rfl]
    have rno := refu_no hS h0 (k := 1) (by decide)
    have e1 : t1 (ub L) N s = refu s 1 := by unfold t1 txW; rw [if_neg q7', adv_dead rno]
    have e : tlS (ub L) N k s = refu s 1 := by
      unfold tlS
      rw [if_neg (fun z => q7' z.1), d71 hS (by rw [e1]; exact rno), e1]
    rw [e] at hD
    refine rbad (by decide) h ((hD rno).1 _ (Fr.rf.up _ (by simp [qU])) ?_)
    rw [gI_eq]
    unfold refu; rw [if_pos h0]
  rw [if_pos q7', if_neg (by decide)]
  by_cases k16 : k = 16
  · rw [if_pos (by omega)]
    have rno := refu_no hS h0 (k := 2) (by decide)
    have e : tlS (ub L) N k s = refu s 2 := by unfold tlS; rw [if_pos ⟨q7', by omega⟩]
    rw [e] at hD
    refine rbad (by decide) h ((hD rno).1 _ (Fr.rf.up _ (by simp [qU])) ?_)
    rw [gI_eq]
    unfold refu; rw [if_pos h0]
  rw [if_neg (by omega)]
  have e : tlS (ub L) N k s = t7 (ub L) N s := by unfold tlS; rw [if_neg (fun z => by omega)]
  rw [e] at hA hD
  clear e
  have e1 : t1 (ub L) N s = adv (ub L) N s := by unfold t1 txW; rw [if_pos q7']
  have i4 : ¬ (5 * (k : Int) + 4 ≥ 80) := by omega
  refine h.go (fun z1 M1 f1 l1 => ?_) (fun z1 M1 f1 t1' p1 x1 => ?_)
  case refine_2 =>
    rw [← e1] at z1 p1 x1
    rw [d71 hS z1] at hD
    refine pnd_val p1 ?_
    rw [if_pos rfl]
    refine (hD z1).1 _ ((f1.mono (fun a j y => q7_U y)).up _ (by simp [qU])) ?_
    rw [gI_eq, x1]
  rw [← e1] at z1 l1
  have F1 : Fr (qX (5 * (k : Int)) (5 * (k : Int) + 5)) M M1 := f1.mono (fun a j y => q7_V y)
  refine rval_r (s := t1 (ub L) N s) ⟨by omega, by omega⟩ l1 (fun z2 M2 f2 l2 v2 => ?_) (fun z2 => ⟨fun M2 f2 x2 => ?_, fun M2 f2 tt p2 x2 => ?_⟩)
  case refine_2 =>
    show (if (0 : Int) = 0 then _ else _)
    rw [if_pos rfl]
    have hD' := hD
    rw [d72 hS z2] at hD'
    exact (hD' z2).1 M2 ((F1.mono (fun a j y => qX_U y)).trans f2) x2
  case refine_3 =>
    show (if (1 : Int) = 0 then _ else _)
    rw [if_neg (by decide)]
    have hD' := hD
    rw [d72 hS z2] at hD'
    refine pnd_val p2 ?_
    rw [if_pos rfl]
    refine (hD' z2).1 _ (((F1.mono (fun a j y => qX_U y)).trans f2).up _ (by simp [qU])) ?_
    rw [gI_eq]; exact x2.symm
  rw [if_neg (by decide)]
  have F2 : Fr (qX (5 * (k : Int)) (5 * (k : Int) + 5)) M M2 := F1.trans (f2.mono (fun a j y => qX_m (by omega) (by omega) y))
  refine rval_r (s := t2 (ub L) N s) ⟨by omega, by omega⟩ l2 (fun z3 M3 f3 l3 v3 => ?_) (fun z3 => ⟨fun M3 f3 x3 => ?_, fun M3 f3 tt p3 x3 => ?_⟩)
  case refine_2 =>
    show (if (0 : Int) = 0 then _ else _)
    rw [if_pos rfl]
    have hD' := hD
    rw [d73 hS z3] at hD'
    exact (hD' z3).1 M3 ((F2.mono (fun a j y => qX_U y)).trans f3) x3
  case refine_3 =>
    show (if (1 : Int) = 0 then _ else _)
    rw [if_neg (by decide)]
    have hD' := hD
    rw [d73 hS z3] at hD'
    refine pnd_val p3 ?_
    rw [if_pos rfl]
    refine (hD' z3).1 _ (((F2.mono (fun a j y => qX_U y)).trans f3).up _ (by simp [qU])) ?_
    rw [gI_eq]; exact x3.symm
  rw [if_neg (by decide)]
  have F3 : Fr (qX (5 * (k : Int)) (5 * (k : Int) + 5)) M M3 := F2.trans (f3.mono (fun a j y => qX_m (by omega) (by omega) y))
  refine rval_r (s := t3 (ub L) N s) ⟨by omega, by omega⟩ l3 (fun z4 M4 f4 l4 v4 => ?_) (fun z4 => ⟨fun M4 f4 x4 => ?_, fun M4 f4 tt p4 x4 => ?_⟩)
  case refine_2 =>
    show (if (0 : Int) = 0 then _ else _)
    rw [if_pos rfl]
    have hD' := hD
    rw [d74 hS z4] at hD'
    exact (hD' z4).1 M4 ((F3.mono (fun a j y => qX_U y)).trans f4) x4
  case refine_3 =>
    show (if (1 : Int) = 0 then _ else _)
    rw [if_neg (by decide)]
    have hD' := hD
    rw [d74 hS z4] at hD'
    refine ⟨1, c - 2, by omega, rwordN_r (Nat.le_refl _) p4.1 (by decide) ?_⟩
    rw [if_pos rfl, p4.2.1, if_pos rfl, p4.2.2.1, bad_w p4.2.2.2 1 (by decide)]
    refine (hD' z4).1 _ (((F3.mono (fun a j y => qX_U y)).trans f4).up _ (by simp [qU])) ?_
    rw [gI_eq]; exact x4.symm
  rw [if_neg (by decide)]
  have F4 : Fr (qX (5 * (k : Int)) (5 * (k : Int) + 5)) M M4 := F3.trans (f4.mono (fun a j y => qX_m (by omega) (by omega) y))
  have s4 : SK N (t4 (ub L) N s) := hS.txW.tnS.tnS.tnS
  refine ⟨1, c - 2, by omega, rw8 (s := t4 (ub L) N s) (Nat.le_refl _) l4 ?_⟩
  by_cases q8 : wdb (ub L) (t4 (ub L) N s) (pm_txt 8) = true
  case neg =>
    rw [if_neg q8, if_pos rfl]
    have rno := refu_no s4 l4.2.2.2.1 (k := 1) (by decide)
    have e5 : t5 (ub L) N s = refu (t4 (ub L) N s) 1 := by unfold t5 txW; rw [if_neg q8, adv_dead rno]
    rw [d75 hS (by rw [e5]; exact rno), e5] at hD
    refine rbad (s := t4 (ub L) N s) (by decide) l4 ((hD rno).1 _ ((F4.mono (fun a j y => qX_U y)).up _ (by simp [qU])) ?_)
    rw [gI_eq]
    unfold refu; rw [if_pos (show (t4 (ub L) N s).2.2.2.2 = 0 from l4.2.2.2.1)]
  rw [if_pos q8, if_neg (by decide)]
  have e5 : t5 (ub L) N s = adv (ub L) N (t4 (ub L) N s) := by unfold t5 txW; rw [if_pos q8]
  refine LVt.go (s := t4 (ub L) N s) l4 (fun z5 M5 f5 l5 => ?_) (fun z5 M5 f5 t5' p5 x5 => ?_)
  case refine_2 =>
    rw [← e5] at z5 p5 x5
    rw [d75 hS z5] at hD
    refine pnd_val p5 ?_
    rw [if_pos rfl, if_pos (by omega)]
    refine ⟨⟨by omega, by omega⟩, Or.inl rfl, (hD z5).1 _ ((((F4.mono (fun a j y => qX_U y)).trans (f5.mono (fun a j y => q7_U y))).up _ (by simp [qU])).up _ (by simp [qU])) ?_⟩
    rw [gI_ne _ _ _ _ (by decide), gI_eq, x5]
  rw [← e5] at z5 l5
  have F5 : Fr (qX (5 * (k : Int)) (5 * (k : Int) + 5)) M M5 := F4.trans (f5.mono (fun a j y => q7_V y))
  refine rval_r (s := t5 (ub L) N s) ⟨by omega, by omega⟩ l5 (fun z6 M6 f6 l6 v6 => ?_) (fun z6 => ⟨fun M6 f6 x6 => ?_, fun M6 f6 tt p6 x6 => ?_⟩)
  case refine_2 =>
    show (if (0 : Int) = 0 then _ else _)
    rw [if_pos rfl, if_pos (by omega)]
    have hD' := hD
    rw [d76 hS z6] at hD'
    refine ⟨⟨by omega, by omega⟩, Or.inl rfl, (hD' z6).1 _ (((F5.mono (fun a j y => qX_U y)).trans f6).up _ (by simp [qU])) ?_⟩
    rw [gI_ne _ _ _ _ (by decide)]; exact x6
  case refine_3 =>
    show (if (1 : Int) = 0 then _ else _)
    rw [if_neg (by decide)]
    have hD' := hD
    rw [d76 hS z6] at hD'
    refine ⟨1, c - 3, by omega, rwordN_r (Nat.le_refl _) p6.1 (by decide) ?_⟩
    rw [if_pos rfl, if_pos (by omega)]
    refine ⟨⟨by omega, by omega⟩, Or.inr rfl, (hD' z6).2 _ (((F5.mono (fun a j y => qX_U y)).trans f6).up _ (by simp [qU])) (tt.fr (p := fun a _ => a == 155) (Fr.rf.up _ rfl) rfl (fun _ => rfl)) ⟨?_, ?_, ?_, p6.2.2.2⟩ x6⟩
    · rw [gI_ne _ _ _ _ (by decide)]; exact p6.1
    · rw [gI_ne _ _ _ _ (by decide)]; exact p6.2.1
    · rw [gI_ne _ _ _ _ (by decide)]; exact p6.2.2.1
  rw [if_neg (by decide)]
  have F6 : Fr (qX (5 * (k : Int)) (5 * (k : Int) + 5)) M M6 := F5.trans (f6.mono (fun a j y => qX_m (by omega) (by omega) y))
  -- the four numbers
  have n0 : gI M6 155 (5 * (k : Int)) = tnV (ub L) N (t1 (ub L) N s) := by
    rw [f6.g (by simp [qX]; omega), f5.g rfl, f4.g (by simp [qX]; omega), f3.g (by simp [qX]; omega)]; exact v2
  have n1 : gI M6 155 (5 * (k : Int) + 1) = tnV (ub L) N (t2 (ub L) N s) := by
    rw [f6.g (by simp [qX]; omega), f5.g rfl, f4.g (by simp [qX]; omega)]; exact v3
  have n2 : gI M6 155 (5 * (k : Int) + 2) = tnV (ub L) N (t3 (ub L) N s) := by
    rw [f6.g (by simp [qX]; omega), f5.g rfl]; exact v4
  have n3 : gI M6 155 (5 * (k : Int) + 3) = tnV (ub L) N (t5 (ub L) N s) := v6
  clear v2 v3 v4 v6
  have wr : ∀ v, Fr (qX (5 * (k : Int)) (5 * (k : Int) + 5)) M (upI M6 155 (5 * (k : Int) + 4) v) ∧ gI (upI M6 155 (5 * (k : Int) + 4) v) 155 (5 * (k : Int)) = tnV (ub L) N (t1 (ub L) N s) ∧ gI (upI M6 155 (5 * (k : Int) + 4) v) 155 (5 * (k : Int) + 1) = tnV (ub L) N (t2 (ub L) N s) ∧ gI (upI M6 155 (5 * (k : Int) + 4) v) 155 (5 * (k : Int) + 2) = tnV (ub L) N (t3 (ub L) N s) ∧ gI (upI M6 155 (5 * (k : Int) + 4) v) 155 (5 * (k : Int) + 3) = tnV (ub L) N (t5 (ub L) N s) ∧ gI (upI M6 155 (5 * (k : Int) + 4) v) 155 (5 * (k : Int) + 4) = v := by
    intro v
    refine ⟨F6.up _ (by simp [qX]; omega), ?_, ?_, ?_, ?_, gI_eq _ _ _ _⟩
    · rw [gI_nf _ _ (by omega)]; exact n0
    · rw [gI_nf _ _ (by omega)]; exact n1
    · rw [gI_nf _ _ (by omega)]; exact n2
    · rw [gI_nf _ _ (by omega)]; exact n3
  have lw : ∀ v, LVt L N (t6 (ub L) N s) (upI M6 155 (5 * (k : Int) + 4) v) := by
    intro v
    have ne : ∀ a j, a ≠ 155 → gI (upI M6 155 (5 * (k : Int) + 4) v) a j = gI M6 a j := fun a j q => gI_ne _ _ _ _ q
    obtain ⟨b1, b2, b3, b4⟩ := l6
    refine ⟨b1.fr (p := fun a _ => a == 155) (Fr.rf.up _ rfl) rfl (fun _ => rfl), ?_, by rw [ne _ _ (by decide)]; exact b3, b4⟩
    unfold Hr; rw [ne _ _ (by decide), ne _ _ (by decide), ne _ _ (by decide), ne _ _ (by decide)]; exact b2
  refine ⟨1, c - 3, by omega, rw9 (s := t6 (ub L) N s) (Nat.le_refl _) l6 ?_⟩
  by_cases q9 : wdb (ub L) (t6 (ub L) N s) (pm_txt 9) = true
  · rw [if_pos q9, if_neg (by decide), if_pos (by omega)]
    refine ⟨⟨by omega, by omega⟩, ?_⟩
    have e7 : t7 (ub L) N s = adv (ub L) N (t6 (ub L) N s) := by unfold t7; rw [if_pos q9]
    obtain ⟨g0, g1, g2, g3, g4, g5⟩ := wr 1
    have lw1 := lw 1
    generalize upI M6 155 (5 * (k : Int) + 4) 1 = M7 at *
    refine LVt.go (s := t6 (ub L) N s) lw1 (fun z8 M8 f8 l8 => ?_) (fun z8 M8 f8 t8 p8 x8 => ?_)
    · rw [← e7] at z8 l8
      refine ⟨Or.inr rfl, hA z8 M8 (g0.trans (f8.mono (fun a j y => q7_V y))) l8 ⟨?_, ?_, ?_, ?_, ?_⟩⟩
      · rw [f8.g rfl]; exact g1
      · rw [f8.g rfl]; exact g2
      · rw [f8.g rfl]; exact g3
      · rw [f8.g rfl]; exact g4
      · rw [f8.g rfl, g5]; unfold tlR; simp only []; rw [if_pos q9]
    · rw [← e7] at z8 p8 x8
      exact ⟨Or.inr rfl, (hD z8).2 M8 ((g0.mono (fun a j y => qX_U y)).trans (f8.mono (fun a j y => q7_U y))) t8 p8 x8⟩
  · rw [if_neg q9, if_pos rfl, if_pos (by omega)]
    have e7 : t7 (ub L) N s = t6 (ub L) N s := by unfold t7; rw [if_neg q9]
    rw [e7] at hA
    obtain ⟨g0, g1, g2, g3, g4, g5⟩ := wr 0
    refine ⟨⟨by omega, by omega⟩, Or.inr rfl, hA l6.2.2.2.1 _ g0 (lw 0) ⟨g1, g2, g3, g4, ?_⟩⟩
    rw [g5]; unfold tlR; simp only []; rw [if_neg q9]

-- needs 30 31 32 33a 33b 33c 33d 33e 33f 33g 33h 33i 33j 40 41 42 43 44 45 46 50 51 52 53 54 79a
/-! the class's scanner goes on to the next token -/
theorem advance60_r {L : Int → Int} {N p : Int} {M : pm_M} {K : pm_M → Prop} (hT : TpC L N M) (hp : 0 ≤ p ∧ p ≤ N) (e2 : gI M 70 2 = p) (e6 : gI M 70 6 = 0)
    (hq : ∀ M', Fr p7 M M' → Hs ((tok (ub L) N p).2.2, p, (tok (ub L) N p).1, (tok (ub L) N p).2.1, if (tok (ub L) N p).1 = 1 then 8 * p + 1 else 0) M' → K M') : k7_advance_60 M K := by
  obtain ⟨t1, ⟨n0, n6⟩, t3⟩ := hT
  have fin : ∀ M6, Fr p7 M M6 → gI M6 70 2 = (tok (ub L) N p).2.2 → gI M6 70 3 = p → gI M6 70 4 = (tok (ub L) N p).1 → gI M6 70 5 = (tok (ub L) N p).2.1 → gI M6 70 6 = 0 → (if gI M6 70 4 = 1 then (if gI M6 70 6 = 0 then K (upI (upI M6 70 6 (w32 ((w32 (8 * (gI M6 70 3))) + 1))) 70 4 1) else K M6) else K M6) := by
    intro M6 f6 g2 g3 g4 g5 g6
    rw [g3, g4, g6]
    by_cases e : (tok (ub L) N p).1 = 1
    · rw [if_pos e, if_pos rfl, w32_id (show -2147483648 ≤ 8 * p ∧ 8 * p < 2147483648 by omega), w32_id (by omega)]
      refine hq _ ((f6.up _ rfl).up _ rfl) ⟨?_, ?_, ?_, ?_, ?_⟩
      · rw [gI_nf _ _ (by decide), gI_nf _ _ (by decide)]; exact g2
      · rw [gI_nf _ _ (by decide), gI_nf _ _ (by decide)]; exact g3
      · rw [gI_eq]; exact e.symm
      · rw [gI_nf _ _ (by decide), gI_nf _ _ (by decide)]; exact g5
      · rw [gI_nf _ _ (by decide), gI_eq]; show 8 * p + 1 = if (tok (ub L) N p).1 = 1 then 8 * p + 1 else 0; rw [if_pos e]
    · rw [if_neg e]
      refine hq M6 f6 ⟨g2, g3, g4, g5, ?_⟩
      rw [g6]; show (0 : Int) = if (tok (ub L) N p).1 = 1 then 8 * p + 1 else 0; rw [if_neg e]
  apply k7_advance_60_r
  rw [e2, t1, if_neg (by omega)]
  by_cases hN : p < N
  case neg =>
    rw [if_neg hN]
    have ht : tok (ub L) N p = (0, 0, p) := by unfold tok; rw [if_pos (by omega)]
    rw [ht] at hq
    refine hq _ (((Fr.rf.up _ rfl).up _ rfl).up _ rfl) ⟨?_, ?_, ?_, ?_, ?_⟩
    · rw [gI_nf _ _ (by decide), gI_nf _ _ (by decide), gI_nf _ _ (by decide)]; exact e2
    · rw [gI_nf _ _ (by decide), gI_nf _ _ (by decide), gI_eq]
    · rw [gI_eq]
    · rw [gI_nf _ _ (by decide), gI_eq]
    · rw [gI_nf _ _ (by decide), gI_nf _ _ (by decide), gI_nf _ _ (by decide)]; exact e6
  rw [if_pos hN]
  refine ⟨⟨hp.1, by omega⟩, ?_⟩
  obtain ⟨tL, tb⟩ := t3 p hp.1 (by omega)
  have hu : ub L p = pm_iand (L p) 255 := rfl
  have hs := ub_s tb
  rw [tL]
  rw [← hu] at hs ⊢
  have f1 : Fr p7 M (upI (upI M 70 3 p) 70 5 0) := (Fr.rf.up _ rfl).up _ rfl
  have g2 : gI (upI (upI M 70 3 p) 70 5 0) 70 2 = p := by rw [gI_nf _ _ (by decide), gI_nf _ _ (by decide)]; exact e2
  have g3 : gI (upI (upI M 70 3 p) 70 5 0) 70 3 = p := by rw [gI_nf _ _ (by decide), gI_eq]
  have g5 : gI (upI (upI M 70 3 p) 70 5 0) 70 5 = 0 := gI_eq _ _ _ _
  have g6 : gI (upI (upI M 70 3 p) 70 5 0) 70 6 = 0 := by rw [gI_nf _ _ (by decide), gI_nf _ _ (by decide)]; exact e6
  have g1 : gI (upI (upI M 70 3 p) 70 5 0) 70 1 = N := by rw [gI_nf _ _ (by decide), gI_nf _ _ (by decide)]; exact t1
  have gt : ∀ i, 0 ≤ i → i < 600 → gI (upI (upI M 70 3 p) 70 5 0) 1 i = L i := fun i i0 i1 => by rw [gI_ne _ _ _ _ (by decide), gI_ne _ _ _ _ (by decide)]; exact (t3 i i0 i1).1
  generalize upI (upI M 70 3 p) 70 5 0 = M1 at *
  have c255 : 0 ≤ ub L p ∧ ub L p ≤ 255 := by omega
  -- a sign
  have scan : ∀ j a, (j = -1 ∨ 0 ≤ j) → (a = -1 ∨ 0 ≤ a) → tok (ub L) N p = (if ¬ j = -1 then (4, j, p + 2) else if ¬ a = -1 then (4, a, p + 1) else if ub L p = 61 ∨ ub L p = 40 ∨ ub L p = 41 ∨ ub L p = 123 ∨ ub L p = 125 ∨ ub L p = 59 then (5, ub L p, p + 1) else (1, ub L p, p + 1)) → k7_scanSign (ub L p) j a M1 (fun M6 => (if gI M6 70 4 = 1 then (if gI M6 70 6 = 0 then K (upI (upI M6 70 6 (w32 ((w32 (8 * (gI M6 70 3))) + 1))) 70 4 1) else K M6) else K M6)) := by
    intro j a hj ha ht
    apply k7_scanSign_r
    rw [show ub L p % 65536 = ub L p by omega]
    refine indexOf_r (Or.inr (Or.inl rfl)) c255 ?_
    have hi := ix1 c255
    rw [show ((1 : Int).toNat) = 1 from rfl, g2, w32_id (show -2147483648 ≤ p + 1 ∧ p + 1 < 2147483648 by omega), w32_id (show -2147483648 ≤ p + 2 ∧ p + 2 < 2147483648 by omega)]
    have put : ∀ ty v nx, tok (ub L) N p = (ty, v, nx) → (if gI (upI (upI (upI M1 70 4 ty) 70 5 v) 70 2 nx) 70 4 = 1 then (if gI (upI (upI (upI M1 70 4 ty) 70 5 v) 70 2 nx) 70 6 = 0 then K (upI (upI (upI (upI (upI M1 70 4 ty) 70 5 v) 70 2 nx) 70 6 (w32 ((w32 (8 * (gI (upI (upI (upI M1 70 4 ty) 70 5 v) 70 2 nx) 70 3))) + 1))) 70 4 1) else K (upI (upI (upI M1 70 4 ty) 70 5 v) 70 2 nx)) else K (upI (upI (upI M1 70 4 ty) 70 5 v) 70 2 nx)) := by
      intro ty v nx h
      refine fin _ (((f1.up _ rfl).up _ rfl).up _ rfl) ?_ ?_ ?_ ?_ ?_
      · rw [gI_eq, h]
      · rw [gI_nf _ _ (by decide), gI_nf _ _ (by decide), gI_nf _ _ (by decide)]; exact g3
      · rw [gI_nf _ _ (by decide), gI_nf _ _ (by decide), gI_eq, h]
      · rw [gI_nf _ _ (by decide), gI_eq, h]
      · rw [gI_nf _ _ (by decide), gI_nf _ _ (by decide), gI_nf _ _ (by decide)]; exact g6
    by_cases hm : ixl (pm_txt 1) (w8 (ub L p)) (pm_txt 1).length 0 < 0
    · rw [if_pos hm]
      have hnm := hi.mp hm
      by_cases ej : j = -1
      · rw [if_pos ej]; rw [if_neg (fun z => z ej)] at ht
        by_cases ea : a = -1
        · rw [if_pos ea]; rw [if_neg (fun z => z ea), if_neg hnm] at ht; exact put _ _ _ ht
        · rw [if_neg ea]; rw [if_pos ea] at ht; exact put _ _ _ ht
      · rw [if_neg ej]; rw [if_pos ej] at ht; exact put _ _ _ ht
    · rw [if_neg hm]
      have hym : ub L p = 61 ∨ ub L p = 40 ∨ ub L p = 41 ∨ ub L p = 123 ∨ ub L p = 125 ∨ ub L p = 59 := Decidable.not_not.mp (fun z => hm (hi.mpr z))
      by_cases ej : j = -1
      · rw [if_pos ej]; rw [if_neg (fun z => z ej)] at ht
        by_cases ea : a = -1
        · rw [if_pos ea]; rw [if_neg (fun z => z ea), if_pos hym] at ht; exact put _ _ _ ht
        · rw [if_neg ea]; rw [if_pos ea] at ht; exact put _ _ _ ht
      · rw [if_neg ej]; rw [if_pos ej] at ht; exact put _ _ _ ht
  have hsal : sal (ub L p) = -1 ∨ 0 ≤ sal (ub L p) := by unfold sal; repeat' split; all_goals omega
  have hsbe : sbe (ub L p) = -1 ∨ 0 ≤ sbe (ub L p) := by unfold sbe; repeat' split; all_goals omega
  have blk : tok (ub L) N p = tsg (ub L) N p → (if w32 (p + 1) < 0 then k7_signAlone (ub L p) M1 (fun r5 M4 => k7_scanSign (ub L p) (-1) r5 M4 (fun M6 => (if gI M6 70 4 = 1 then (if gI M6 70 6 = 0 then K (upI (upI M6 70 6 (w32 ((w32 (8 * (gI M6 70 3))) + 1))) 70 4 1) else K M6) else K M6))) else (if w32 (p + 1) < N then ((0 ≤ w32 (p + 1) ∧ w32 (p + 1) < 600) ∧ (if pm_iand (gI M 1 (w32 (p + 1))) 255 = 61 then k7_signBeforeEqual (ub L p) M1 (fun r14 M13 => k7_signAlone (ub L p) M13 (fun r16 M15 => k7_scanSign (ub L p) r14 r16 M15 (fun M6 => (if gI M6 70 4 = 1 then (if gI M6 70 6 = 0 then K (upI (upI M6 70 6 (w32 ((w32 (8 * (gI M6 70 3))) + 1))) 70 4 1) else K M6) else K M6)))) else k7_signAlone (ub L p) M1 (fun r22 M21 => k7_scanSign (ub L p) (-1) r22 M21 (fun M6 => (if gI M6 70 4 = 1 then (if gI M6 70 6 = 0 then K (upI (upI M6 70 6 (w32 ((w32 (8 * (gI M6 70 3))) + 1))) 70 4 1) else K M6) else K M6))))) else k7_signAlone (ub L p) M1 (fun r28 M27 => k7_scanSign (ub L p) (-1) r28 M27 (fun M6 => (if gI M6 70 4 = 1 then (if gI M6 70 6 = 0 then K (upI (upI M6 70 6 (w32 ((w32 (8 * (gI M6 70 3))) + 1))) 70 4 1) else K M6) else K M6))))) := by
    intro ht
    have alone : ¬ (p + 1 < N ∧ ub L (p + 1) = 61 ∧ ¬ sbe (ub L p) = -1) → k7_signAlone (ub L p) M1 (fun r5 M4 => k7_scanSign (ub L p) (-1) r5 M4 (fun M6 => (if gI M6 70 4 = 1 then (if gI M6 70 6 = 0 then K (upI (upI M6 70 6 (w32 ((w32 (8 * (gI M6 70 3))) + 1))) 70 4 1) else K M6) else K M6))) := by
      intro hno
      refine signAlone_r c255 (scan (-1) _ (Or.inl rfl) hsal ?_)
      rw [ht]; unfold tsg; rw [if_neg hno, if_neg (show ¬ ¬ (-1 : Int) = -1 from fun z => z rfl)]
    rw [w32_id (show -2147483648 ≤ p + 1 ∧ p + 1 < 2147483648 by omega), if_neg (by omega)]
    by_cases hN1 : p + 1 < N
    · rw [if_pos hN1]
      refine ⟨⟨by omega, by omega⟩, ?_⟩
      rw [(t3 (p + 1) (by omega) (by omega)).1]
      show (if ub L (p + 1) = 61 then _ else _)
      by_cases e61 : ub L (p + 1) = 61
      · rw [if_pos e61]
        refine signBefore_r (signAlone_r c255 (scan _ _ hsbe hsal ?_))
        rw [ht]; unfold tsg
        by_cases ej : sbe (ub L p) = -1
        · rw [if_neg (fun z => z.2.2 ej), if_neg (show ¬ ¬ sbe (ub L p) = -1 from fun z => z ej)]
        · rw [if_pos ⟨hN1, e61, ej⟩, if_pos ej]
      · rw [if_neg e61]; exact alone (fun z => e61 z.2.1)
    · rw [if_neg hN1]; exact alone (fun z => hN1 z.1)
  -- a word
  have word : (97 ≤ ub L p ∧ ub L p ≤ 122) → k7_scanWord M1 (fun M6 => (if gI M6 70 4 = 1 then (if gI M6 70 6 = 0 then K (upI (upI M6 70 6 (w32 ((w32 (8 * (gI M6 70 3))) + 1))) 70 4 1) else K M6) else K M6)) := by
    intro hw
    have ht : tok (ub L) N p = (2, 0, wx (ub L) N p) := by unfold tok; rw [if_neg (by omega), if_pos hw]
    apply k7_scanWord_r
    have loop : ∀ (d : Nat) (q : Int) (M2 : pm_M), (N - q).toNat ≤ d → 0 ≤ q → q ≤ N → wx (ub L) N q = wx (ub L) N p → Fr p7 M M2 → gI M2 70 2 = q → gI M2 70 3 = p → gI M2 70 4 = 2 → gI M2 70 5 = 0 → gI M2 70 6 = 0 → gI M2 70 1 = N → k7_scanWord_5 M2 (fun M6 => (if gI M6 70 4 = 1 then (if gI M6 70 6 = 0 then K (upI (upI M6 70 6 (w32 ((w32 (8 * (gI M6 70 3))) + 1))) 70 4 1) else K M6) else K M6)) := by
      intro d
      induction d with
      | zero =>
        intro q M2 hd q0 qN hx f2 y2 y3 y4 y5 y6 y1
        apply k7_scanWord_5_r
        rw [y2, y1, if_neg (by omega)]
        rw [wx_no (by omega)] at hx
        exact fin M2 f2 (by rw [y2, ht]; exact hx) y3 (by rw [y4, ht]) (by rw [y5, ht]) y6
      | succ d ih =>
        intro q M2 hd q0 qN hx f2 y2 y3 y4 y5 y6 y1
        apply k7_scanWord_5_r
        rw [y2, y1]
        have done : ¬ (q < N ∧ (97 ≤ ub L q ∧ ub L q ≤ 122)) → (if gI M2 70 4 = 1 then (if gI M2 70 6 = 0 then K (upI (upI M2 70 6 (w32 ((w32 (8 * (gI M2 70 3))) + 1))) 70 4 1) else K M2) else K M2) := by
          intro hno
          rw [wx_no hno] at hx
          exact fin M2 f2 (by rw [y2, ht]; exact hx) y3 (by rw [y4, ht]) (by rw [y5, ht]) y6
        by_cases hq' : q < N
        case neg => rw [if_neg hq']; exact done (by omega)
        rw [if_pos hq']
        refine ⟨⟨q0, by omega⟩, ?_⟩
        obtain ⟨zL, zb⟩ := t3 q q0 (by omega)
        have zs := ub_s zb
        have zu : ub L q = pm_iand (L q) 255 := rfl
        rw [← zu] at zs
        rw [f2.g rfl, zL]
        by_cases a : L q < 97
        · rw [if_pos a]; exact done (by omega)
        rw [if_neg a]
        by_cases b : L q ≤ 122
        · rw [if_pos b, w32_id (show -2147483648 ≤ q + 1 ∧ q + 1 < 2147483648 by omega)]
          rw [wx_yes hq' (by omega)] at hx
          refine ih (q + 1) _ (by omega) (by omega) (by omega) hx (f2.up _ rfl) (gI_eq _ _ _ _) ?_ ?_ ?_ ?_ ?_
          · rw [gI_nf _ _ (by decide)]; exact y3
          · rw [gI_nf _ _ (by decide)]; exact y4
          · rw [gI_nf _ _ (by decide)]; exact y5
          · rw [gI_nf _ _ (by decide)]; exact y6
          · rw [gI_nf _ _ (by decide)]; exact y1
        · rw [if_neg b]; exact done (by omega)
    refine loop _ p _ (Nat.le_refl _) hp.1 hp.2 rfl (f1.up _ rfl) ?_ ?_ (gI_eq _ _ _ _) ?_ ?_ ?_
    · rw [gI_nf _ _ (by decide)]; exact g2
    · rw [gI_nf _ _ (by decide)]; exact g3
    · rw [gI_nf _ _ (by decide)]; exact g5
    · rw [gI_nf _ _ (by decide)]; exact g6
    · rw [gI_nf _ _ (by decide)]; exact g1
  -- a number
  have numl : (48 ≤ ub L p ∧ ub L p ≤ 57) → k7_scanNumeral M1 (fun M6 => (if gI M6 70 4 = 1 then (if gI M6 70 6 = 0 then K (upI (upI M6 70 6 (w32 ((w32 (8 * (gI M6 70 3))) + 1))) 70 4 1) else K M6) else K M6)) := by
    intro hw
    have ht : tok (ub L) N p = (if (nv (ub L) N p p 0).2 - p ≤ 3 then 3 else 1, (nv (ub L) N p p 0).1, (nv (ub L) N p p 0).2) := by unfold tok; rw [if_neg (by omega), if_neg (by omega), if_pos hw]
    apply k7_scanNumeral_r
    have loop : ∀ (d : Nat) (q v : Int) (M2 : pm_M), (N - q).toNat ≤ d → p ≤ q → q ≤ N → 0 ≤ v → v < (if q - p = 0 then 1 else if q - p = 1 then 10 else if q - p = 2 then 100 else 1000) → nv (ub L) N p q v = nv (ub L) N p p 0 → Fr p7 M M2 → gI M2 70 2 = q → gI M2 70 3 = p → gI M2 70 5 = v → gI M2 70 6 = 0 → gI M2 70 1 = N → k7_scanNumeral_0 M2 (fun M6 => (if gI M6 70 4 = 1 then (if gI M6 70 6 = 0 then K (upI (upI M6 70 6 (w32 ((w32 (8 * (gI M6 70 3))) + 1))) 70 4 1) else K M6) else K M6)) := by
      intro d
      have done : ∀ (q v : Int) (M2 : pm_M), p ≤ q → q ≤ N → ¬ (q < N ∧ (48 ≤ ub L q ∧ ub L q ≤ 57)) → nv (ub L) N p q v = nv (ub L) N p p 0 → Fr p7 M M2 → gI M2 70 2 = q → gI M2 70 3 = p → gI M2 70 5 = v → gI M2 70 6 = 0 → (if w32 (q - p) ≤ 3 then (if gI (upI M2 70 4 3) 70 4 = 1 then (if gI (upI M2 70 4 3) 70 6 = 0 then K (upI (upI (upI M2 70 4 3) 70 6 (w32 ((w32 (8 * (gI (upI M2 70 4 3) 70 3))) + 1))) 70 4 1) else K (upI M2 70 4 3)) else K (upI M2 70 4 3)) else (if gI (upI M2 70 4 1) 70 4 = 1 then (if gI (upI M2 70 4 1) 70 6 = 0 then K (upI (upI (upI M2 70 4 1) 70 6 (w32 ((w32 (8 * (gI (upI M2 70 4 1) 70 3))) + 1))) 70 4 1) else K (upI M2 70 4 1)) else K (upI M2 70 4 1))) := by
        intro q v M2 q0 qN hno hx f2 y2 y3 y5 y6
        rw [nv_no hno] at hx
        rw [← hx] at ht
        simp only [] at ht
        rw [w32_id (show -2147483648 ≤ q - p ∧ q - p < 2147483648 by omega)]
        by_cases e : q - p ≤ 3
        · rw [if_pos e]; rw [if_pos e] at ht
          refine fin _ (f2.up _ rfl) ?_ ?_ ?_ ?_ ?_
          · rw [gI_nf _ _ (by decide), ht]; exact y2
          · rw [gI_nf _ _ (by decide)]; exact y3
          · rw [gI_eq, ht]
          · rw [gI_nf _ _ (by decide), ht]; exact y5
          · rw [gI_nf _ _ (by decide)]; exact y6
        · rw [if_neg e]; rw [if_neg e] at ht
          refine fin _ (f2.up _ rfl) ?_ ?_ ?_ ?_ ?_
          · rw [gI_nf _ _ (by decide), ht]; exact y2
          · rw [gI_nf _ _ (by decide)]; exact y3
          · rw [gI_eq, ht]
          · rw [gI_nf _ _ (by decide), ht]; exact y5
          · rw [gI_nf _ _ (by decide)]; exact y6
      induction d with
      | zero =>
        intro q v M2 hd q0 qN v0 v1 hx f2 y2 y3 y5 y6 y1
        apply k7_scanNumeral_0_r
        rw [y2, y1, y3, if_neg (by omega)]
        exact done q v M2 q0 qN (by omega) hx f2 y2 y3 y5 y6
      | succ d ih =>
        intro q v M2 hd q0 qN v0 v1 hx f2 y2 y3 y5 y6 y1
        apply k7_scanNumeral_0_r
        rw [y2, y1, y3, y5]
        by_cases hq' : q < N
        case neg => rw [if_neg hq']; exact done q v M2 q0 qN (by omega) hx f2 y2 y3 y5 y6
        rw [if_pos hq']
        refine ⟨⟨by omega, by omega⟩, ?_⟩
        obtain ⟨zL, zb⟩ := t3 q (by omega) (by omega)
        have zs := ub_s zb
        have zu : ub L q = pm_iand (L q) 255 := rfl
        rw [← zu] at zs
        rw [f2.g rfl, zL]
        by_cases a : L q < 48
        · rw [if_pos a]; exact done q v M2 q0 qN (by omega) hx f2 y2 y3 y5 y6
        rw [if_neg a]
        by_cases b : L q ≤ 57
        case neg => rw [if_neg b]; exact done q v M2 q0 qN (by omega) hx f2 y2 y3 y5 y6
        rw [if_pos b]
        have hd' : 48 ≤ ub L q ∧ ub L q ≤ 57 := by omega
        have el : L q = ub L q := by omega
        rw [nv_yes hq' hd'] at hx
        have v999 : v ≤ 999 := by
          split at v1
          · omega
          · split at v1
            · omega
            · split at v1 <;> omega
        rw [w32_id (show -2147483648 ≤ q + 1 ∧ q + 1 < 2147483648 by omega), w32_id (show -2147483648 ≤ q - p ∧ q - p < 2147483648 by omega), el, w32_id (show -2147483648 ≤ 10 * v ∧ 10 * v < 2147483648 by omega), w32_id (show -2147483648 ≤ 10 * v + ub L q ∧ 10 * v + ub L q < 2147483648 by omega), w32_id (show -2147483648 ≤ 10 * v + ub L q - 48 ∧ 10 * v + ub L q - 48 < 2147483648 by omega)]
        by_cases e3 : q - p < 3
        · rw [if_pos e3]; rw [if_pos e3] at hx
          refine ih (q + 1) (10 * v + ub L q - 48) _ (by omega) (by omega) (by omega) (by omega) ?_ hx ((f2.up _ rfl).up _ rfl) (gI_eq _ _ _ _) ?_ ?_ ?_ ?_
          · by_cases e0 : q - p = 0
            · rw [if_pos e0] at v1; rw [if_neg (by omega), if_pos (by omega)]; omega
            rw [if_neg e0] at v1
            by_cases e1 : q - p = 1
            · rw [if_pos e1] at v1; rw [if_neg (by omega), if_neg (by omega), if_pos (by omega)]; omega
            rw [if_neg e1] at v1
            rw [if_pos (by omega)] at v1
            rw [if_neg (by omega), if_neg (by omega), if_neg (by omega)]; omega
          · rw [gI_nf _ _ (by decide), gI_nf _ _ (by decide)]; exact y3
          · rw [gI_nf _ _ (by decide), gI_eq]
          · rw [gI_nf _ _ (by decide), gI_nf _ _ (by decide)]; exact y6
          · rw [gI_nf _ _ (by decide), gI_nf _ _ (by decide)]; exact y1
        · rw [if_neg e3]; rw [if_neg e3] at hx
          refine ih (q + 1) v _ (by omega) (by omega) (by omega) v0 ?_ hx (f2.up _ rfl) (gI_eq _ _ _ _) ?_ ?_ ?_ ?_
          · rw [if_neg (by omega), if_neg (by omega), if_neg (by omega)]; omega
          · rw [gI_nf _ _ (by decide)]; exact y3
          · rw [gI_nf _ _ (by decide)]; exact y5
          · rw [gI_nf _ _ (by decide)]; exact y6
          · rw [gI_nf _ _ (by decide)]; exact y1
    exact loop _ p 0 M1 (Nat.le_refl _) (Int.le_refl _) hp.2 (by decide) (by rw [if_pos (by omega)]; decide) rfl f1 g2 g3 g5 g6 g1
  have ht : ¬ (97 ≤ ub L p ∧ ub L p ≤ 122) → ¬ (48 ≤ ub L p ∧ ub L p ≤ 57) → tok (ub L) N p = tsg (ub L) N p := by
    intro a b; unfold tok; rw [if_neg (by omega), if_neg a, if_neg b]
  by_cases a : ub L p < 97
  · rw [if_pos a]
    by_cases b : ub L p < 48
    · rw [if_pos b]; exact blk (ht (by omega) (by omega))
    rw [if_neg b]
    by_cases c : ub L p ≤ 57
    · rw [if_pos c]; exact numl ⟨by omega, c⟩
    · rw [if_neg c]; exact blk (ht (by omega) (by omega))
  · rw [if_neg a]
    by_cases b : ub L p ≤ 122
    · rw [if_pos b]; exact word ⟨by omega, b⟩
    rw [if_neg b, if_neg (by omega), if_neg (by omega)]
    exact blk (ht (by omega) (by omega))
theorem advance_r {L : Int → Int} {N : Int} {s : Sc} {M : pm_M} {K : pm_M → Prop} (hT : TpC L N M) (hs : Hs s M) (h0 : 0 ≤ s.1 ∧ s.1 ≤ N) (hq : ∀ M', Fr p7 M M' → Hs (adv (ub L) N s) M' → K M') : k7_advance M K := by
  obtain ⟨t1, ⟨n0, n6⟩, t3⟩ := hT
  apply k7_advance_r
  rw [hs.2.2.2.2]
  unfold adv at hq
  by_cases z : s.2.2.2.2 = 0
  case neg =>
    rw [if_neg z] at hq ⊢
    exact hq M Fr.rf hs
  rw [if_pos z] at hq ⊢
  have loop : ∀ (d : Nat) (q : Int) (M2 : pm_M), (N - q).toNat ≤ d → 0 ≤ q → q ≤ N → sk (ub L) N q = sk (ub L) N s.1 → Fr p7 M M2 → gI M2 70 2 = q → gI M2 70 6 = 0 → k7_advance_8 M2 K := by
    intro d
    have done : ∀ (q : Int) (M2 : pm_M), 0 ≤ q → q ≤ N → ¬ (q < N ∧ (ub L q = 32 ∨ ub L q = 10)) → sk (ub L) N q = sk (ub L) N s.1 → Fr p7 M M2 → gI M2 70 2 = q → gI M2 70 6 = 0 → k7_advance_60 M2 K := by
      intro q M2 q0 qN hno hx f2 y2 y6
      rw [sk_no hno] at hx
      rw [← hx] at hq
      exact advance60_r (L := L) (N := N) ⟨by rw [f2.g rfl]; exact t1, ⟨n0, n6⟩, fun i i0 i1 => by rw [f2.g rfl]; exact t3 i i0 i1⟩ ⟨q0, qN⟩ y2 y6 (fun M3 f3 h3 => hq M3 (f2.trans f3) h3)
    induction d with
    | zero =>
      intro q M2 hd q0 qN hx f2 y2 y6
      apply k7_advance_8_r
      rw [y2, f2.g rfl, t1, if_neg (by omega)]
      exact done q M2 q0 qN (by omega) hx f2 y2 y6
    | succ d ih =>
      intro q M2 hd q0 qN hx f2 y2 y6
      apply k7_advance_8_r
      rw [y2, show gI M2 70 1 = N by rw [f2.g rfl]; exact t1]
      by_cases hq' : q < N
      case neg => rw [if_neg hq']; exact done q M2 q0 qN (by omega) hx f2 y2 y6
      rw [if_pos hq']
      refine ⟨⟨q0, by omega⟩, ?_⟩
      obtain ⟨zL, zb⟩ := t3 q q0 (by omega)
      have zs := ub_s zb
      have zu : ub L q = pm_iand (L q) 255 := rfl
      rw [← zu] at zs
      rw [show gI M2 1 q = L q by rw [f2.g rfl]; exact zL, w32_id (show -2147483648 ≤ q + 1 ∧ q + 1 < 2147483648 by omega)]
      have next : (ub L q = 32 ∨ ub L q = 10) → k7_advance_8 (upI M2 70 2 (q + 1)) K := by
        intro h
        rw [sk_yes hq' h] at hx
        exact ih (q + 1) _ (by omega) (by omega) (by omega) hx (f2.up _ rfl) (gI_eq _ _ _ _) (by rw [gI_nf _ _ (by decide)]; exact y6)
      by_cases a : L q = 32
      · rw [if_pos a]; exact next (by omega)
      rw [if_neg a]
      by_cases b : L q = 10
      · rw [if_pos b]; exact next (by omega)
      rw [if_neg b]; exact done q M2 q0 qN (by omega) hx f2 y2 y6
  exact loop _ s.1 M (Nat.le_refl _) h0.1 h0.2 rfl Fr.rf hs.1 (by rw [hs.2.2.2.2]; exact z)

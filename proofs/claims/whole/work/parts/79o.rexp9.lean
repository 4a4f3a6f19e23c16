-- needs 30 31 32 33a 33b 33c 33d 33e 33f 33g 33h 33i 33j 40 41 42 43 44 45 46 50 51 52 53 54 79a 79aa 79b 79c 79d 79e 79g 79h 79i 79j 79k 79l 79m 79n
/-! the reference reads what is negated; all parts -/
theorem f148 {M : pm_M} {k : Nat} {v : Int} : Fr (fun a i => a == 148 && i == 100 + k) M (upI M 148 (100 + (k : Int)) v) := Fr.rf.up _ (by
  have h : (100 + (k : Int)).toNat = 100 + k := by omega
  show ((148 : Nat) == 148 && (100 + (k : Int)).toNat == 100 + k) = true
  rw [h]; simp)
theorem f148q {k a i : Nat} (h : (a == 148 && i == 100 + k) = true) : qE k a i = true := by
  simp only [qE, Bool.or_eq_true, Bool.and_eq_true, beq_iff_eq, decide_eq_true_eq] at h ⊢
  omega
theorem m1le (k : Nat) : (-1 : Int) ≤ (k : Int) + 1 := by omega
/-- the node of what is negated -/
theorem nadd_r {L : Int → Int} {N d p : Int} {s : Sc} {l : List (Int × Int)} {M : pm_M} {K : Int → pm_M → Prop} (lv : LV L N d (s, l) M) (hl : (l.length : Int) + 1 ≤ s.2.1) (h6 : l.length < 650) (hp : p ≤ (l.length : Int))
    (hK : ∀ M3, Fr (qE l.length) M M3 → LV L N d (s, l ++ [(6, 0)]) M3 → gI M3 147 (100 + (l.length : Int)) = p → gI M3 148 (100 + (l.length : Int)) = (l.length : Int) + 1 → gI M3 145 (100 + (l.length : Int)) = 6 → K (l.length : Int) M3) : k12_adds 6 0 p M (fun r8 M7 => ((0 ≤ w32 (100 + r8) ∧ w32 (100 + r8) < 800) ∧ K r8 (upI M7 148 (w32 (100 + r8)) (gI M7 142 18)))) := by
  obtain ⟨⟨t1, hr1, R1⟩, w1, e8, e20, q0, q1, q2, q3⟩ := lv
  have hlen : (l ++ [((6 : Int), (0 : Int))]).length = l.length + 1 := by simp
  have wk : w32 (100 + (l.length : Int)) = 100 + (l.length : Int) := w32_id ⟨by clear q2 q3; omega, by clear q2 q3; omega⟩
  have A4 : 0 ≤ 100 + (l.length : Int) ∧ 100 + (l.length : Int) < 800 := by clear q2 q3 wk; omega
  refine adds_r (x := (6, 0)) h6 R1 (fun _ => rfl) (fun M2 f2 o2 r2 a7 a8 a9 b0 b1 b2 => ?_)
  have e18 : gI M2 142 18 = (l.length : Int) + 1 := by rw [r2.1, hlen]; rfl
  rw [wk, e18]
  refine ⟨A4, ?_⟩
  have f23 : Fr (fun a i => a == 148 && i == 100 + l.length) M2 (upI M2 148 (100 + (l.length : Int)) ((l.length : Int) + 1)) := f148
  have k148 := gI_eq M2 148 (100 + (l.length : Int)) ((l.length : Int) + 1)
  have n7 : ∀ i, gI (upI M2 148 (100 + (l.length : Int)) ((l.length : Int) + 1)) 147 i = gI M2 147 i := fun i => gI_ne _ _ _ _ (by decide)
  have n5 : ∀ i, gI (upI M2 148 (100 + (l.length : Int)) ((l.length : Int) + 1)) 145 i = gI M2 145 i := fun i => gI_ne _ _ _ _ (by decide)
  have n6 : ∀ i, gI (upI M2 148 (100 + (l.length : Int)) ((l.length : Int) + 1)) 146 i = gI M2 146 i := fun i => gI_ne _ _ _ _ (by decide)
  have n9 : ∀ i, gI (upI M2 148 (100 + (l.length : Int)) ((l.length : Int) + 1)) 149 i = gI M2 149 i := fun i => gI_ne _ _ _ _ (by decide)
  have n2 : ∀ i, gI (upI M2 148 (100 + (l.length : Int)) ((l.length : Int) + 1)) 142 i = gI M2 142 i := fun i => gI_ne _ _ _ _ (by decide)
  have f13 : Fr (qE l.length) M (upI M2 148 (100 + (l.length : Int)) ((l.length : Int) + 1)) := f2.trans (f23.mono (fun a i h => f148q h))
  generalize upI M2 148 (100 + (l.length : Int)) ((l.length : Int) + 1) = M3 at *
  have h3 := (r2.2 l.length (by rw [hlen]; exact Nat.lt_succ_self _)).1
  have eg : (l ++ [((6 : Int), (0 : Int))]).getD l.length (0, 0) = (6, 0) := by rw [List.getD_eq_getElem?_getD, List.getElem?_append_right (Nat.le_refl _), Nat.sub_self]; rfl
  rw [eg] at h3
  have k7 : gI M3 147 (100 + (l.length : Int)) = p := (n7 _).trans a7
  have k9 : gI M3 149 (100 + (l.length : Int)) = -1 := (n9 _).trans a9
  have lenI : (((l ++ [((6 : Int), (0 : Int))]).length : Nat) : Int) = (l.length : Int) + 1 := by rw [hlen]; rfl
  refine hK M3 f13 ⟨⟨t1.fr f13 rfl (fun _ => rfl), ?_, ⟨by rw [n2]; exact r2.1, fun i hi => by rw [n5, n6]; exact r2.2 i hi⟩⟩, ?_, ?_, ?_, q0, q1, ?_, q3⟩ k7 k148 ((n5 _).trans h3)
  · unfold Hr
    rw [n2, n2, n2, n2, o2 142 5 rfl (by decide) (by decide), o2 142 4 rfl (by decide) (by decide), o2 142 6 rfl (by decide) (by decide), o2 142 7 rfl (by decide) (by decide)]
    exact hr1
  · refine w1.add f13 k7 hp (by rw [k148]; exact Int.le_refl _) (by rw [k9]; exact m1le _)
  · rw [n2, o2 142 8 rfl (by decide) (by decide)]; exact e8
  · rw [n2, o2 142 20 rfl (by decide) (by decide)]; exact e20
  · show (((l ++ [((6 : Int), (0 : Int))]).length : Nat) : Int) ≤ s.2.1
    rw [lenI]; exact hl
theorem naddp_r {L : Int → Int} {N p pl : Int} {l : List (Int × Int)} {M : pm_M} {K : Int → pm_M → Prop} {h : Nat} (hh : 22 ≤ h) (hT : TpR L N M) (hP : Pnd M pl) (R1 : RN l M) (h6 : l.length < 650)
    (hK : ∀ M3, Fr (qE l.length) M M3 → gI M3 142 8 = 8 * pl + 1 → K 0 M3) : k12_adds 6 0 p M (fun r8 M7 => ((0 ≤ w32 (100 + r8) ∧ w32 (100 + r8) < 800) ∧ k12_part h r8 (upI M7 148 (w32 (100 + r8)) (gI M7 142 18)) K)) := by
  have wk : w32 (100 + (l.length : Int)) = 100 + (l.length : Int) := w32_id ⟨by omega, by omega⟩
  have A4 : 0 ≤ 100 + (l.length : Int) ∧ 100 + (l.length : Int) < 800 := by clear wk; omega
  refine adds_r (x := (6, 0)) h6 R1 (fun _ => rfl) (fun M2 f2 o2 r2 a7 a8 a9 b0 b1 b2 => ?_)
  rw [wk]
  refine ⟨A4, ?_⟩
  have f13 : Fr (qE l.length) M (upI M2 148 (100 + (l.length : Int)) (gI M2 142 18)) := f2.trans (f148.mono (fun a i h => f148q h))
  have n2 : ∀ i, gI (upI M2 148 (100 + (l.length : Int)) (gI M2 142 18)) 142 i = gI M2 142 i := fun i => gI_ne _ _ _ _ (by decide)
  generalize upI M2 148 (100 + (l.length : Int)) (gI M2 142 18) = M3 at *
  refine pnd_part hh (hT.fr f13 rfl (fun _ => rfl)) (pl := pl) ⟨?_, ?_, ?_, hP.2.2.2⟩ ?_
  · rw [n2, o2 142 6 rfl (by decide) (by decide)]; exact hP.1
  · rw [n2, o2 142 8 rfl (by decide) (by decide)]; exact hP.2.1
  · rw [n2, o2 142 4 rfl (by decide) (by decide)]; exact hP.2.2.1
  · exact hK _ (f13.up _ (by simp [qE])) (gI_eq _ _ _ _)
theorem neg_r {L : Int → Int} {N : Int} {f : Nat} (iP : QP L N f) {d p : Int} {S : Ps} {M : pm_M} {K : Int → pm_M → Prop} {h : Nat} (d0 : 0 ≤ d) (d8 : d < 8) (hm : 4 * (8 - d) ≤ f) (hh : 23 + 4 * (8 - d) ≤ h) (hv : LV L N d S M) (hp : p < (S.2.length : Int)) (t4 : S.1.2.2.1 = 4)
    (hO : RO L N S.2.length p d (rx (ub L) N f 3 (d + 1) (adv (ub L) N S.1, S.2 ++ [(6, 0)])) M K) : k12_go (upI M 142 20 (d + 1)) (fun M5 => k12_adds 6 0 p M5 (fun r8 M7 => ((0 ≤ w32 (100 + r8) ∧ w32 (100 + r8) < 800) ∧ k12_part (h - 1) r8 (upI M7 148 (w32 (100 + r8)) (gI M7 142 18)) (fun r11 M10 => ((r11 = 0 ∨ r11 = 1) ∧ K r11 (upI M10 142 20 (w32 ((gI M10 142 20) - 1)))))))) := by
  have hv1 : LV L N (d + 1) S (upI M 142 20 (d + 1)) := hv.deep
  have fM : Fr (qE S.2.length) M (upI M 142 20 (d + 1)) := Fr.rf.up _ rfl
  generalize upI M 142 20 (d + 1) = M0 at *
  obtain ⟨⟨hT, hr, hR⟩, hw, e8, e20, h0, hS, hl, hpl⟩ := hv1
  have n6 := hT.2.1.2
  have hpp := hS.1
  have A1 : ¬ S.1.2.2.1 = 0 := fun z => absurd (z.symm.trans t4) (by decide)
  have A2 : (S.2.length : Int) ≤ S.1.2.1 + 1 := Int.le_trans hl (Int.le_add_of_nonneg_right (by decide))
  have A3 : S.2.length < 650 := by clear e8 e20 h0 A1 A2 t4; omega
  have A5 : (S.2.length : Int) + 1 ≤ (adv (ub L) N S.1).2.1 := by
    have hlt := (hS.2.2.1 h0).2 A1
    have hpa := adv_pl (u := ub L) hS h0
    clear e8 e20 h0 A1 A2 t4; omega
  have A6 : p ≤ (S.2.length : Int) := Int.le_of_lt hp
  have hlen : (S.2 ++ [((6 : Int), (0 : Int))]).length = S.2.length + 1 := by simp
  have dd : w32 (d + 1 - 1) = d := by rw [w32_id (by clear e8 e20 h0 A1 A2 t4 hlen hpp hpl hl A3 A5 A6 n6; omega)]; clear e8 e20 h0 A1 A2 t4 hlen hpp hpl hl A3 A5 A6 n6; omega
  refine goL (d := d + 1) (s := S.1) (l := S.2) hT hr.1 hS h0 A1 A2 hR hw e8 e20 ?_ ?_
  · intro z M1 f1 lv1
    have f01 : Fr (qE S.2.length) M M1 := fM.trans (f1.mono (fun a i h => q7_E h))
    refine nadd_r (K := fun r8 M7 => k12_part (h - 1) r8 M7 (fun r11 M10 => ((r11 = 0 ∨ r11 = 1) ∧ K r11 (upI M10 142 20 (w32 ((gI M10 142 20) - 1)))))) lv1 A5 A3 A6 ?_
    intro M3 f13 lv3 k147 k148 k145
    have f03 : Fr (qE S.2.length) M M3 := f01.trans f13
    clear hpp n6 hpl hl e8 e20
    have B1 : 0 ≤ d + 1 ∧ d + 1 ≤ 8 ∧ 4 * (8 - (d + 1)) + 1 ≤ f ∧ 23 + 4 * (8 - (d + 1)) ≤ ((h - 1 : Nat) : Int) := by clear A5 A2 A3 A6 hlen dd k147 k148 k145 h0 z t4; omega
    have B2 : (S.2.length : Int) < (((S.2 ++ [((6 : Int), (0 : Int))]).length : Nat) : Int) := by rw [hlen]; exact Int.lt_succ _
    refine iP (d + 1) (adv (ub L) N S.1, S.2 ++ [(6, 0)]) M3 _ (h - 1) (S.2.length : Int) B1.1 B1.2.1 B1.2.2.1 B1.2.2.2 lv3 B2 ?_
    show RO L N (S.2 ++ [((6 : Int), (0 : Int))]).length _ _ _ _ _
    rw [hlen]
    generalize rx (ub L) N f 3 (d + 1) (adv (ub L) N S.1, S.2 ++ [(6, 0)]) = S2 at *
    refine ⟨?_, ?_⟩
    · intro z2 M4 f4 lv4 c7 hX
      obtain ⟨g, hX⟩ := hX
      show ((1 : Int) = 0 ∨ (1 : Int) = 1) ∧ _
      rw [lv4.2.2.2.1, dd]
      have o4 : ∀ a, 145 ≤ a → a ≤ 149 → gI M4 a (100 + (S.2.length : Int)) = gI M3 a (100 + (S.2.length : Int)) := fun a a1 a2 => f4.g (by clear A5 A2 A3 A6 hlen dd k147 k148 k145 h0 z t4 c7 z2; simp [qE]; omega)
      have ek : ((S.2.length + 1 : Nat) : Int) = (S.2.length : Int) + 1 := rfl
      rw [ek] at c7 hX
      refine ⟨Or.inr rfl, hO.1 z2 _ ((f03.trans (f4.mono (fun a i h => qE_mono (Nat.le_succ _) h))).up _ rfl) lv4.deep ?_ ⟨g + 1, XB.deep (Or.inr (Or.inl ⟨(o4 145 (by decide) (by decide)).trans k145, (o4 148 (by decide) (by decide)).trans k148, c7, hX⟩))⟩⟩
      rw [q20 _ _ (Or.inl (by decide))]; exact (o4 147 (by decide) (by decide)).trans k147
    · intro z2
      obtain ⟨o1, o2'⟩ := hO.2 z2
      refine ⟨fun M4 f4 e => ⟨Or.inl rfl, o1 _ ((f03.trans (f4.mono (fun a i h => qE_mono (Nat.le_succ _) h))).up _ rfl) (by rw [q20 _ _ (Or.inr (by decide))]; exact e)⟩, fun M4 f4 t4' p4 e4 => ⟨Or.inr rfl, o2' _ ((f03.trans (f4.mono (fun a i h => qE_mono (Nat.le_succ _) h))).up _ rfl) t4'.deep p4.deep e4⟩⟩
  · intro z M1 f1 t1 p1 e1
    have f01 : Fr (qE S.2.length) M M1 := fM.trans (f1.mono (fun a i h => q7_E h))
    have R1 : RN S.2 M1 := ⟨by rw [f1.g rfl]; exact hR.1, fun i hi => by rw [f1.g rfl, f1.g rfl]; exact hR.2 i hi⟩
    have B1 : 22 ≤ h - 1 := by clear A5 A2 A3 A6 hlen dd h0 z t4 e1 hpp hpl hl e8 e20 n6; omega
    refine naddp_r B1 t1 p1 R1 A3 (fun M3 f3 e3 => ?_)
    have ty := (adv_f h0 z).1
    rw [rx_dead f 3 (d + 1) (adv (ub L) N S.1, S.2 ++ [(6, 0)]) z ty] at hO
    refine ⟨Or.inl rfl, (hO.2 z).1 _ ((f01.trans f3).up _ rfl) ?_⟩
    rw [q20 _ _ (Or.inr (by decide)), e3]; exact e1.symm

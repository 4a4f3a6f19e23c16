/-! the other reader: a statement up to its expression -/
theorem rhead {L : Int → Int} {N par br dep : Int} {Q : Qs} {M : pm_M} {K : Int → pm_M → Prop} {c h : Nat} (hh : 152 ≤ h) (hc : 3 ≤ c) (hv : LQ L N dep Q M) (ha : ¬ knd (ub L) Q.1.1 = -1) (h20 : Q.2.length < 20) (hpar : par < (Q.1.2.length : Int))
    (hA : (exq (ub L) N par br Q).1.1.2.2.2.2 = 0 → ∀ M', Fr (qS Q.1.2.length) M M' → LV L N 0 (exq (ub L) N par br Q).1 M' → HC M' ((Q.2.length : Int) + 1) dep → HF M' (Q.1.2.length : Int) par → XBh M' (Q.1.2.length : Int) (((exq (ub L) N par br Q).1.2.length : Int) - 1) → Tl (c - 3) h (if wdb (ub L) Q.1.1 (pm_txt 3) = true then 1 else 0) (if wdb (ub L) Q.1.1 (pm_txt 5) = true then 1 else 0) (vr (ub L) Q.1.1) (Q.1.2.length : Int) M' K)
    (hD : ¬ (exq (ub L) N par br Q).1.1.2.2.2.2 = 0 → ∀ M', Fr (qS 0) M M' → gI M' 142 8 = (exq (ub L) N par br Q).1.1.2.2.2.2 → K 0 M') : k12_statement c h par M K := by
  have hG := hv.gp
  obtain ⟨⟨⟨hT, hr, hR⟩, hw, e8, e20⟩, ⟨h0, hS, hl, hWD⟩, e19, e21⟩ := hv
  have n6 := hT.2.1.2
  have hp := hS.1
  have ty := knd_ty ha
  have hk6 : Q.1.2.length < 650 := by omega
  have hE : Hid (gI M 142 8 = 0 ∧ gI M 142 20 = 0 ∧ gI M 142 21 = dep) := ⟨e8, e20, e21⟩
  clear e8 e20 e21
  -- the expression, from what the head comes to
  have ex : ∀ (M3 : pm_M), Fr (qS Q.1.2.length) M M3 → LV L N 0 (hdp (ub L) N Q.1) M3 → HC M3 ((Q.2.length : Int) + 1) dep → gI M3 147 (100 + (Q.1.2.length : Int)) = par → gI M3 150 (100 + (Q.1.2.length : Int)) = -1 → gI M3 151 (100 + (Q.1.2.length : Int)) = -1 → gI M3 152 (100 + (Q.1.2.length : Int)) = -1 → k12_statement_170 (c - 3) h (if wdb (ub L) Q.1.1 (pm_txt 3) = true then 1 else 0) (if wdb (ub L) Q.1.1 (pm_txt 5) = true then 1 else 0) (vr (ub L) Q.1.1) (Q.1.2.length : Int) M3 K := by
    intro M3 f3 lv3 c3 a7 a0 a1 a2
    have hl1 : (hdp (ub L) N Q.1).2.length = Q.1.2.length + 1 := by unfold hdp; rw [List.length_append]; rfl
    exact st170_r hh hk6 lv3 hl1 f3 c3 a7 a0 a1 a2 hA hD
  -- dead at its head
  have deadx : ∀ s : Sc, (hdp (ub L) N Q.1).1 = s → ¬ s.2.2.2.2 = 0 → s.2.2.1 = 1 → ¬ (exq (ub L) N par br Q).1.1.2.2.2.2 = 0 ∧ (exq (ub L) N par br Q).1.1.2.2.2.2 = s.2.2.2.2 := by
    intro s es z z1
    have e : (exq (ub L) N par br Q).1 = hdp (ub L) N Q.1 := by
      show rx (ub L) N 36 0 0 (hdp (ub L) N Q.1) = _
      rw [rx_dead _ _ _ _ (by rw [es]; exact z) (by rw [es]; exact z1)]
    rw [e, es]; exact ⟨z, rfl⟩
  have hgh := hG.hd h0 ha
  -- behind the words
  have core : ∀ (kd v : Int), kd = knd (ub L) Q.1.1 → (¬ (kd = 1 ∨ kd = 2 ∨ kd = 3) → v = vr (ub L) Q.1.1) → ∀ (G : Int → pm_M → Prop), (∀ M3, (knd (ub L) Q.1.1 = 0 → k12_sign 61 M3 (fun r16 M15 => (if r16 = 0 then K 0 M15 else k12_statement_170 (c - 3) h (if wdb (ub L) Q.1.1 (pm_txt 3) = true then 1 else 0) (if wdb (ub L) Q.1.1 (pm_txt 5) = true then 1 else 0) (vr (ub L) Q.1.1) (Q.1.2.length : Int) M15 K))) → (¬ knd (ub L) Q.1.1 = 0 → k12_statement_170 (c - 3) h (if wdb (ub L) Q.1.1 (pm_txt 3) = true then 1 else 0) (if wdb (ub L) Q.1.1 (pm_txt 5) = true then 1 else 0) (vr (ub L) Q.1.1) (Q.1.2.length : Int) M3 K) → G (Q.1.2.length : Int) M3) → k12_adds kd v par (upI M 142 19 (w32 ((gI M 142 19) + 1))) (fun r8 M7 => k12_go M7 (fun M9 => G r8 M9)) := by
    intro kd v hkd hvv G hG2
    have w19 : w32 ((gI M 142 19) + 1) = (Q.2.length : Int) + 1 := by rw [e19, w32_id (by omega)]
    rw [w19]
    have f0 : Fr (fun a i => a == 142 && i == 19) M (upI M 142 19 ((Q.2.length : Int) + 1)) := Fr.rf.up _ rfl
    have k19 : Hid (gI (upI M 142 19 ((Q.2.length : Int) + 1)) 142 19 = (Q.2.length : Int) + 1) := gI_eq _ _ _ _
    generalize upI M 142 19 ((Q.2.length : Int) + 1) = M0 at *
    have R0 : RN Q.1.2 M0 := ⟨by rw [f0.g rfl]; exact hR.1, fun i hi => by rw [f0.g rfl, f0.g rfl]; exact hR.2 i hi⟩
    have w0 : RW Q.1.2 M0 := fun i hi => by rw [f0.g rfl, f0.g rfl, f0.g rfl]; exact hw i hi
    refine adds_r (x := (kd, vr (ub L) Q.1.1)) hk6 R0 hvv (fun M1 f1 o1 r1 a7 a8 a9 a0 b1 b2 => ?_)
    rw [hkd] at r1
    have hA7 : Hid (gI M1 147 (100 + (Q.1.2.length : Int)) = par ∧ gI M1 150 (100 + (Q.1.2.length : Int)) = -1 ∧ gI M1 151 (100 + (Q.1.2.length : Int)) = -1 ∧ gI M1 152 (100 + (Q.1.2.length : Int)) = -1) := ⟨a7, a0, b1, b2⟩
    have w1 : RW (Q.1.2 ++ [(knd (ub L) Q.1.1, vr (ub L) Q.1.1)]) M1 := w0.add f1 a7 (by omega) (by omega) (by omega)
    clear a7 a8 a9 a0 b1 b2
    have f01 : Fr (qS Q.1.2.length) M M1 := (f0.mono (fun a i y => by simp only [Bool.and_eq_true, beq_iff_eq] at y; simp [qS, y])).trans (f1.mono (fun a i y => qE_S y))
    have o2 : ∀ i, i ≠ 18 → i ≠ 19 → 0 ≤ i → gI M1 142 i = gI M 142 i := fun i i1 i2 i0 => by
      rw [o1 142 i rfl i1 i0, f0.g (by simp; omega)]
    have t1 : TpR L N M1 := hT.fr f01 rfl (fun _ => rfl)
    have hlen : (Q.1.2 ++ [(knd (ub L) Q.1.1, vr (ub L) Q.1.1)]).length = Q.1.2.length + 1 := by rw [List.length_append]; rfl
    have c1 : HC M1 ((Q.2.length : Int) + 1) dep := ⟨by rw [o1 142 19 rfl (by decide) (by decide)]; exact k19, by rw [o2 21 (by decide) (by decide) (by decide)]; exact hE.2.2⟩
    refine goL (d := 0) (s := Q.1.1) (l := Q.1.2 ++ [(knd (ub L) Q.1.1, vr (ub L) Q.1.1)]) t1 (by rw [o2 5 (by decide) (by decide) (by decide)]; exact hr.1) hS h0 (by omega) (by rw [hlen]; omega) r1 w1 (by rw [o2 8 (by decide) (by decide) (by decide)]; exact hE.1) (by rw [o2 20 (by decide) (by decide) (by decide)]; exact hE.2.1) ?_ ?_
    · intro z M2 f2 lv2
      have f02 : Fr (qS Q.1.2.length) M M2 := f01.trans (f2.mono (fun a i y => q7_S y))
      have c2 : HC M2 ((Q.2.length : Int) + 1) dep := ⟨by rw [f2.g rfl]; exact c1.1, by rw [f2.g rfl]; exact c1.2⟩
      refine hG2 M2 (fun k0 => ?_) (fun k0 => ?_)
      · refine signL (by decide) lv2 ?_ ?_ ?_
        · intro s5 sc z2 M3 f3 lv3
          rw [if_neg (by decide)]
          have ehd : hdp (ub L) N Q.1 = (adv (ub L) N (adv (ub L) N Q.1.1), Q.1.2 ++ [(knd (ub L) Q.1.1, vr (ub L) Q.1.1)]) := by
            unfold hdp exm; rw [if_pos k0, if_pos ⟨s5, sc⟩]
          refine ex M3 (f02.trans (f3.mono (fun a i y => q7_S y))) (by rw [ehd]; exact lv3) ⟨by rw [f3.g rfl]; exact c2.1, by rw [f3.g rfl]; exact c2.2⟩ ?_ ?_ ?_ ?_
          · rw [f3.g rfl, f2.g rfl]; exact hA7.1
          · rw [f3.g rfl, f2.g rfl]; exact hA7.2.1
          · rw [f3.g rfl, f2.g rfl]; exact hA7.2.2.1
          · rw [f3.g rfl, f2.g rfl]; exact hA7.2.2.2
        · intro s5 sc z2 M3 f3 t3 p3 e3
          rw [if_neg (by decide)]
          have ehd : (hdp (ub L) N Q.1).1 = adv (ub L) N (adv (ub L) N Q.1.1) := by
            unfold hdp exm; rw [if_pos k0, if_pos ⟨s5, sc⟩]
          have sk2 : SK N (adv (ub L) N (adv (ub L) N Q.1.1)) := (hS.advk (u := ub L)).advk
          obtain ⟨d1, d2⟩ := deadx _ ehd z2 (sk2.2.1 z2)
          refine st170_pnd (by omega) hk6 t3 p3 (fun M4 f4 e4 => hD d1 M4 (((f02.trans (f3.mono (fun a i y => q7_S y))).mono (fun a i y => qS_mono (Nat.zero_le _) y)).trans f4) ?_)
          rw [d2, e4, e3]
        · intro hno
          rw [if_pos rfl]
          have sk1 : SK N (adv (ub L) N Q.1.1) := hS.advk
          have rno := refu_no sk1 z (k := 1) (by decide)
          have ehd : (hdp (ub L) N Q.1).1 = refu (adv (ub L) N Q.1.1) 1 := by
            unfold hdp exm; rw [if_pos k0, if_neg hno]; exact adv_dead rno
          obtain ⟨d1, d2⟩ := deadx _ ehd rno ((sk1.refuk (k := 1) (by decide)).2.1 rno)
          refine hD d1 _ ((f02.mono (fun a i y => qS_mono (Nat.zero_le _) y)).up _ (by simp [qS, qE])) ?_
          rw [d2, gI_eq]
          unfold refu; rw [if_pos z]
      · have ehd : hdp (ub L) N Q.1 = (adv (ub L) N Q.1.1, Q.1.2 ++ [(knd (ub L) Q.1.1, vr (ub L) Q.1.1)]) := by
          unfold hdp; rw [if_neg k0]
        refine ex M2 f02 (by rw [ehd]; exact lv2) c2 ?_ ?_ ?_ ?_
        · rw [f2.g rfl]; exact hA7.1
        · rw [f2.g rfl]; exact hA7.2.1
        · rw [f2.g rfl]; exact hA7.2.2.1
        · rw [f2.g rfl]; exact hA7.2.2.2
    · intro z M2 f2 t2 p2 e2
      have f02 : Fr (qS 0) M M2 := (f01.mono (fun a i y => qS_mono (Nat.zero_le _) y)).trans (f2.mono (fun a i y => q7_S y))
      have sk1 : SK N (adv (ub L) N Q.1.1) := hS.advk
      have ehd : (hdp (ub L) N Q.1).1 = adv (ub L) N Q.1.1 := by
        unfold hdp
        by_cases k0 : knd (ub L) Q.1.1 = 0
        · rw [if_pos k0]; exact exm_dead z
        · rw [if_neg k0]
      obtain ⟨d1, d2⟩ := deadx _ ehd z (sk1.2.1 z)
      refine hG2 M2 (fun k0 => ?_) (fun k0 => ?_)
      · refine pnd_sign p2 ?_
        rw [if_pos rfl]
        refine hD d1 _ (f02.up _ (by simp [qS, qE])) ?_
        rw [d2, gI_eq, e2]
      · exact st170_pnd (by omega) hk6 t2 p2 (fun M4 f4 e4 => hD d1 M4 (f02.trans f4) (by rw [d2, e4, e2]))
  apply k12_statement_r (by omega)
  refine ⟨1, c - 1, by omega, rw3 (Nat.le_refl _) hT hr hS hWD ?_⟩
  refine ⟨1, c - 2, by omega, rw4 (Nat.le_refl _) hT hr hS hWD ?_⟩
  refine ⟨1, c - 3, by omega, rw5 (Nat.le_refl _) hT hr hS hWD ?_⟩
  refine rvar_r hT hr hS ?_
  obtain ⟨w0, w1, w2, w3, -⟩ := knd_w (u := ub L) (s := Q.1.1)
  have ne20 : ¬ gI M 142 19 = 20 := by rw [e19]; omega
  have k78 : k12_statement_78 (c - 3) h par (if wdb (ub L) Q.1.1 (pm_txt 3) = true then 1 else 0) (if wdb (ub L) Q.1.1 (pm_txt 4) = true then 1 else 0) (if wdb (ub L) Q.1.1 (pm_txt 5) = true then 1 else 0) (vr (ub L) Q.1.1) M K := by
    apply k12_statement_78_r (by omega)
    rw [if_neg ne20]
    have kr := (knd_rng (ub L) Q.1.1).resolve_left ha
    have k4 : knd (ub L) Q.1.1 = 0 ∨ knd (ub L) Q.1.1 = 1 ∨ knd (ub L) Q.1.1 = 2 ∨ knd (ub L) Q.1.1 = 3 := by omega
    rcases k4 with k | k | k | k
    · obtain ⟨q3, q4, q5, qv⟩ := w0 k
      have i3 : (if wdb (ub L) Q.1.1 (pm_txt 3) = true then (1 : Int) else 0) = 0 := if_neg q3
      have i4 : (if wdb (ub L) Q.1.1 (pm_txt 4) = true then (1 : Int) else 0) = 0 := if_neg q4
      have i5 : (if wdb (ub L) Q.1.1 (pm_txt 5) = true then (1 : Int) else 0) = 0 := if_neg q5
      rw [i3, i4, i5]
      rw [if_pos rfl, if_pos rfl, if_pos rfl, if_neg qv]
      refine core 0 (vr (ub L) Q.1.1) k.symm (fun _ => rfl) _ (fun M3 g1 _ => ?_)
      have g2 := g1 k
      rw [i3, i5] at g2
      exact g2
    · obtain ⟨q3, q4, q5, qv⟩ := w1 k
      have i3 : (if wdb (ub L) Q.1.1 (pm_txt 3) = true then (1 : Int) else 0) = 1 := if_pos q3
      have i4 : (if wdb (ub L) Q.1.1 (pm_txt 4) = true then (1 : Int) else 0) = 0 := if_neg q4
      have i5 : (if wdb (ub L) Q.1.1 (pm_txt 5) = true then (1 : Int) else 0) = 0 := if_neg q5
      rw [i3, i4, i5]
      rw [if_neg (by decide), if_pos qv]
      refine core 1 (-100) k.symm (fun z => absurd (Or.inl rfl) z) _ (fun M3 _ g1 => ?_)
      have g2 := g1 (by omega)
      rw [i3, i5] at g2
      exact g2
    · obtain ⟨q3, q4, q5, qv⟩ := w2 k
      have i3 : (if wdb (ub L) Q.1.1 (pm_txt 3) = true then (1 : Int) else 0) = 0 := if_neg q3
      have i4 : (if wdb (ub L) Q.1.1 (pm_txt 4) = true then (1 : Int) else 0) = 1 := if_pos q4
      have i5 : (if wdb (ub L) Q.1.1 (pm_txt 5) = true then (1 : Int) else 0) = 0 := if_neg q5
      rw [i3, i4, i5]
      rw [if_pos rfl, if_neg (by decide), if_pos qv]
      refine core 2 (-100) k.symm (fun z => absurd (Or.inr (Or.inl rfl)) z) _ (fun M3 _ g1 => ?_)
      have g2 := g1 (by omega)
      rw [i3, i5] at g2
      exact g2
    · obtain ⟨q3, q4, q5, qv⟩ := w3 k
      have i3 : (if wdb (ub L) Q.1.1 (pm_txt 3) = true then (1 : Int) else 0) = 0 := if_neg q3
      have i4 : (if wdb (ub L) Q.1.1 (pm_txt 4) = true then (1 : Int) else 0) = 0 := if_neg q4
      have i5 : (if wdb (ub L) Q.1.1 (pm_txt 5) = true then (1 : Int) else 0) = 1 := if_pos q5
      rw [i3, i4, i5]
      rw [if_pos rfl, if_pos rfl, if_neg (by decide), if_pos qv]
      refine core 3 (-100) k.symm (fun z => absurd (Or.inr (Or.inr rfl)) z) _ (fun M3 _ g1 => ?_)
      have g2 := g1 (by omega)
      rw [i3, i5] at g2
      exact g2
  by_cases q3 : wdb (ub L) Q.1.1 (pm_txt 3) = true
  · rw [if_pos q3, if_neg (by decide)]; rw [if_pos q3] at k78; exact k78
  rw [if_neg q3, if_pos rfl]; rw [if_neg q3] at k78
  by_cases q4 : wdb (ub L) Q.1.1 (pm_txt 4) = true
  · rw [if_pos q4, if_neg (by decide)]; rw [if_pos q4] at k78; exact k78
  rw [if_neg q4, if_pos rfl]; rw [if_neg q4] at k78
  by_cases q5 : wdb (ub L) Q.1.1 (pm_txt 5) = true
  · rw [if_pos q5, if_neg (by decide)]; rw [if_pos q5] at k78; exact k78
  rw [if_neg q5, if_pos rfl]; rw [if_neg q5] at k78
  have nv : ¬ vr (ub L) Q.1.1 = -1 := fun z => ha (by unfold knd; rw [if_neg (fun y => y z), if_neg q3, if_neg q4, if_neg q5])
  rw [if_neg nv]; exact k78

-- needs 30 31 32 33a 33b 33c 33d 33e 33f 33g 33h 33i 33j 40 41 42 43 44 45 46 50 51 52 53 54 79a 79aa 79b 79c 79d 79e 79g 79h 79i 79j 79k 79l 79m
/-! the reference reads parts: numbers, variables, what is opened, what is negated -/
theorem q20 {M : pm_M} {v : Int} (a : Nat) (i : Int) (h : a ≠ 142 ∨ i.toNat ≠ 20) : gI (upI M 142 20 v) a i = gI M a i := by
  rcases h with h | h
  · exact gI_ne _ _ _ _ h
  · exact gI_nf _ _ h
theorem LV.deep {L : Int → Int} {N d d' : Int} {S : Ps} {M : pm_M} (h : LV L N d S M) : LV L N d' S (upI M 142 20 d') := by
  obtain ⟨⟨hT, hr, hR⟩, hw, e8, e20, h0, hS, hl, h1⟩ := h
  have f : Fr (fun a i => a == 142 && i == 20) M (upI M 142 20 d') := Fr.rf.up _ rfl
  refine ⟨⟨hT.fr f rfl (fun _ => rfl), ?_, ⟨by rw [f.g rfl]; exact hR.1, fun i hi => by rw [f.g rfl, f.g rfl]; exact hR.2 i hi⟩⟩, fun i hi => by rw [f.g rfl, f.g rfl, f.g rfl]; exact hw i hi, by rw [f.g rfl]; exact e8, gI_eq _ _ _ _, h0, hS, hl, h1⟩
  unfold Hr
  rw [f.g rfl, f.g rfl, f.g rfl, f.g rfl]; exact hr
theorem XB.deep {M : pm_M} {v : Int} {f : Nat} {n e : Int} (h : XB M f n e) : XB (upI M 142 20 v) f n e := h.same (fun k _ _ => ⟨q20 _ _ (Or.inl (by decide)), q20 _ _ (Or.inl (by decide)), q20 _ _ (Or.inl (by decide))⟩) (fun k _ _ => q20 _ _ (Or.inl (by decide)))
theorem TpR.deep {L : Int → Int} {N v : Int} {M : pm_M} (h : TpR L N M) : TpR L N (upI M 142 20 v) := h.fr (p := fun a i => a == 142 && i == 20) (Fr.rf.up _ rfl) rfl (fun _ => rfl)
theorem Pnd.deep {pl v : Int} {M : pm_M} (h : Pnd M pl) : Pnd (upI M 142 20 v) pl := ⟨by rw [q20 _ _ (Or.inr (by decide))]; exact h.1, by rw [q20 _ _ (Or.inr (by decide))]; exact h.2.1, by rw [q20 _ _ (Or.inr (by decide))]; exact h.2.2.1, h.2.2.2⟩
theorem open_r {L : Int → Int} {N : Int} {f : Nat} (iX : QX L N f) {d p : Int} {S : Ps} {M : pm_M} {K : Int → pm_M → Prop} {h : Nat} (d0 : 0 ≤ d) (d8 : d < 8) (hm : 4 * (8 - d) ≤ f) (hh : 23 + 4 * (8 - d) ≤ h) (hv : LV L N d S M) (hp : p < (S.2.length : Int)) (t5 : S.1.2.2.1 = 5)
    (hO : RO L N S.2.length p d (exm (ub L) N 41 (rx (ub L) N f 0 (d + 1) (adv (ub L) N S.1, S.2)).1, (rx (ub L) N f 0 (d + 1) (adv (ub L) N S.1, S.2)).2) M K) : k12_go (upI M 142 20 (d + 1)) (fun M13 => k12_e (h - 1) p M13 (fun r16 M15 => (if r16 = 0 then K 0 (upI M15 142 20 (w32 ((gI M15 142 20) - 1))) else k12_sign 41 M15 (fun r19 M18 => (if r19 = 0 then K 0 (upI M18 142 20 (w32 ((gI M18 142 20) - 1))) else K 1 (upI M18 142 20 (w32 ((gI M18 142 20) - 1)))))))) := by
  have hv1 : LV L N (d + 1) S (upI M 142 20 (d + 1)) := hv.deep
  have fM : Fr (qE S.2.length) M (upI M 142 20 (d + 1)) := Fr.rf.up _ rfl
  generalize upI M 142 20 (d + 1) = M0 at *
  obtain ⟨⟨hT, hr, hR⟩, hw, e8, e20, h0, hS, hl, hpl⟩ := hv1
  refine goL (d := d + 1) (s := S.1) (l := S.2) hT hr.1 hS h0 (by omega) (by omega) hR hw e8 e20 ?_ ?_
  · intro z M1 f1 lv1
    have g2 := lv1.gd f 0 (d + 1)
    have f01 : Fr (qE S.2.length) M M1 := fM.trans (f1.mono (fun a i h => q7_E h))
    refine iX (d + 1) _ M1 _ (h - 1) p (by omega) (by omega) (by omega) (by omega) lv1 hp ?_
    generalize hS2 : rx (ub L) N f 0 (d + 1) (adv (ub L) N S.1, S.2) = S2 at *
    refine ⟨?_, ?_⟩
    · intro z2 M2 f2 lv2 a7 hX
      show (if (1 : Int) = 0 then _ else _)
      rw [if_neg (by decide)]
      have f02 : Fr (qE S.2.length) M M2 := f01.trans f2
      refine signL (by simp) lv2 ?_ ?_ ?_
      · intro t v zz M3 f3 lv3
        have hx : exm (ub L) N 41 S2.1 = adv (ub L) N S2.1 := by unfold exm; rw [if_pos ⟨t, v⟩]
        rw [hx] at hO
        rw [if_neg (by decide), lv3.2.2.2.1, show w32 (d + 1 - 1) = d by rw [w32_id (by omega)]; omega]
        obtain ⟨g, hX⟩ := hX
        refine hO.1 zz _ ((f02.trans (f3.mono (fun a i h => q7_E h))).up _ rfl) lv3.deep ?_ ⟨g, XB.deep (hX.same (fun k _ _ => ⟨f3.g rfl, f3.g rfl, f3.g rfl⟩) (fun k _ _ => f3.g rfl))⟩
        rw [q20 _ _ (Or.inl (by decide)), f3.g rfl]; exact a7
      · intro t v zz M3 f3 t3 p3 e3
        have hx : exm (ub L) N 41 S2.1 = adv (ub L) N S2.1 := by unfold exm; rw [if_pos ⟨t, v⟩]
        rw [hx] at hO
        rw [if_neg (by decide)]
        exact (hO.2 zz).2 _ ((f02.trans (f3.mono (fun a i h => q7_E h))).up _ rfl) t3.deep p3.deep e3
      · intro hno
        have h02 := lv2.2.2.2.2.1
        have hr2 : refu S2.1 1 = (S2.1.1, S2.1.2.1, 1, S2.1.2.2.2.1, 8 * S2.1.2.1 + 1) := by unfold refu; rw [if_pos h02]
        have hpl2 := g2.1.1
        have hne : ¬ (refu S2.1 1).2.2.2.2 = 0 := by rw [hr2]; simp only []; omega
        have hx : exm (ub L) N 41 S2.1 = refu S2.1 1 := by unfold exm; rw [if_neg hno, adv_dead hne]
        rw [hx] at hO
        rw [if_pos rfl]
        refine (hO.2 hne).1 _ ((f02.up _ (by simp [qE])).up _ rfl) ?_
        rw [q20 _ _ (Or.inr (by decide)), gI_eq, hr2]
    · intro z2
      rw [exm_dead z2] at hO
      obtain ⟨o1, o2⟩ := hO.2 z2
      refine ⟨fun M2 f2 e => ?_, fun M2 f2 t2 p2 e2 => ?_⟩
      · show (if (0 : Int) = 0 then _ else _)
        rw [if_pos rfl]
        exact o1 _ ((f01.trans f2).up _ rfl) (by rw [q20 _ _ (Or.inr (by decide))]; exact e)
      · show (if (1 : Int) = 0 then _ else _)
        rw [if_neg (by decide)]
        refine pnd_sign p2 ?_
        rw [if_pos rfl]
        refine o1 _ (((f01.trans f2).up _ (by simp [qE])).up _ rfl) ?_
        rw [q20 _ _ (Or.inr (by decide)), gI_eq]; exact e2.symm
  · intro z M1 f1 t1 p1 e1
    refine pnd_e (by omega) t1 p1 ?_
    show (if (0 : Int) = 0 then _ else _)
    rw [if_pos rfl]
    have ty := (adv_f h0 z).1
    rw [rx_dead _ _ _ _ z ty, exm_dead z] at hO
    refine (hO.2 z).1 _ (((fM.trans (f1.mono (fun a i h => q7_E h))).up _ (by simp [qE])).up _ rfl) ?_
    rw [q20 _ _ (Or.inr (by decide)), gI_eq]; exact e1.symm

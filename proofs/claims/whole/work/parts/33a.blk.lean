-- needs 30 31 32
theorem k11_feed_r {a1 a2 a3 a4 a5 : Int} {M : pm_M} {K : Int → pm_M → Prop} (hq : (if w32 ((gI M 0 1) + 20) ≤ 600 then k11_append a1 M (fun M2 => k11_append a2 M2 (fun M4 => k11_append a3 M4 (fun M6 => k11_append a4 M6 (fun M8 => k11_append a5 M8 (fun M10 => K (gI M10 0 1) M10))))) else K (-1) M)) : k11_feed a1 a2 a3 a4 a5 M K := by
  intro sc d hd
  refine fr_aload_n (pc := 0) dX11_feed_0 rfl rfl ?_
  refine fr_getf (a := 0) (i := 1) (v := gI M 0 1) (t := 0) (pc := 1) dX11_feed_1 rfl pf_11_106 rfl s0_0 rfl rfl ?_
  refine fr_bipush (pc := 4) dX11_feed_4 (by decide) ?_
  refine fr_iadd (z := w32 ((gI M 0 1) + 20)) (pc := 6) dX11_feed_6 rfl ?_
  refine fr_sipush (pc := 7) dX11_feed_7 (by decide) ?_
  refine fr_icm_le (tg := 15) (pc := 10) dX11_feed_10 rfl hq (fun hc1 hq => ?_) (fun hc1 hq => ?_)
  · refine fr_aload_n (pc := 15) dX11_feed_15 rfl rfl ?_
    refine fr_iload_n (pc := 16) dX11_feed_16 rfl rfl ?_
    refine fr_inVV (a := 0) (as := [(0, a1)]) (rest := []) (ls' := [(2, 0), (0, a1), (9, 0)]) (c1 := 0) (c2 := 0) (pc := 17) dX11_feed_17 pl_11_110 rfl ⟨Nat.le_of_ble_eq_true rfl, Nat.le_of_ble_eq_true rfl⟩ rfl rfl rfl s0_0 (Nat.le_of_ble_eq_true rfl) (by omega) rfl rfl (pm_zc _) (hq sc _ (by omega)) (fun M2 hq => ?_)
    refine fr_aload_n (pc := 20) dX11_feed_20 rfl rfl ?_
    refine fr_iload_n (pc := 21) dX11_feed_21 rfl rfl ?_
    refine fr_inVV (a := 0) (as := [(0, a2)]) (rest := []) (ls' := [(2, 0), (0, a2), (9, 0)]) (c1 := 0) (c2 := 0) (pc := 22) dX11_feed_22 pl_11_110 rfl ⟨Nat.le_of_ble_eq_true rfl, Nat.le_of_ble_eq_true rfl⟩ rfl rfl rfl s0_0 (Nat.le_of_ble_eq_true rfl) (by omega) rfl rfl (pm_zc _) (hq sc _ (by omega)) (fun M4 hq => ?_)
    refine fr_aload_n (pc := 25) dX11_feed_25 rfl rfl ?_
    refine fr_iload_n (pc := 26) dX11_feed_26 rfl rfl ?_
    refine fr_inVV (a := 0) (as := [(0, a3)]) (rest := []) (ls' := [(2, 0), (0, a3), (9, 0)]) (c1 := 0) (c2 := 0) (pc := 27) dX11_feed_27 pl_11_110 rfl ⟨Nat.le_of_ble_eq_true rfl, Nat.le_of_ble_eq_true rfl⟩ rfl rfl rfl s0_0 (Nat.le_of_ble_eq_true rfl) (by omega) rfl rfl (pm_zc _) (hq sc _ (by omega)) (fun M6 hq => ?_)
    refine fr_aload_n (pc := 30) dX11_feed_30 rfl rfl ?_
    refine fr_iload (pc := 31) dX11_feed_31 rfl rfl ?_
    refine fr_inVV (a := 0) (as := [(0, a4)]) (rest := []) (ls' := [(2, 0), (0, a4), (9, 0)]) (c1 := 0) (c2 := 0) (pc := 33) dX11_feed_33 pl_11_110 rfl ⟨Nat.le_of_ble_eq_true rfl, Nat.le_of_ble_eq_true rfl⟩ rfl rfl rfl s0_0 (Nat.le_of_ble_eq_true rfl) (by omega) rfl rfl (pm_zc _) (hq sc _ (by omega)) (fun M8 hq => ?_)
    refine fr_aload_n (pc := 36) dX11_feed_36 rfl rfl ?_
    refine fr_iload (pc := 37) dX11_feed_37 rfl rfl ?_
    refine fr_inVV (a := 0) (as := [(0, a5)]) (rest := []) (ls' := [(2, 0), (0, a5), (9, 0)]) (c1 := 0) (c2 := 0) (pc := 39) dX11_feed_39 pl_11_110 rfl ⟨Nat.le_of_ble_eq_true rfl, Nat.le_of_ble_eq_true rfl⟩ rfl rfl rfl s0_0 (Nat.le_of_ble_eq_true rfl) (by omega) rfl rfl (pm_zc _) (hq sc _ (by omega)) (fun M10 hq => ?_)
    refine fr_aload_n (pc := 42) dX11_feed_42 rfl rfl ?_
    refine fr_getf (a := 0) (i := 1) (v := gI M10 0 1) (t := 0) (pc := 43) dX11_feed_43 rfl pf_11_106 rfl s0_0 rfl rfl ?_
    exact fr_iret (pc := 46) dX11_feed_46 (Or.inl rfl) hq
  · refine fr_iconst (pc := 13) dX11_feed_13 (by decide) ?_
    exact fr_iret (pc := 14) dX11_feed_14 (Or.inl rfl) hq
theorem k11_append_r {a1 : Int} {M : pm_M} {K : pm_M → Prop} (hq : k11_append_3 a1 24 M K) : k11_append a1 M K := by
  intro sc d hd
  refine fr_bipush (pc := 0) dX11_append_0 (by decide) ?_
  refine fr_istore_n (ls2 := [(2, 0), (0, a1), (0, 24)]) (pc := 2) dX11_append_2 rfl (Nat.le_of_ble_eq_true rfl) rfl ?_
  exact hq sc d hd
theorem k11_append_3_r {l1 l2 : Int} {M : pm_M} {K : pm_M → Prop} (hq : (if l2 < 0 then K M else (if gI M 0 1 < 600 then ((0 ≤ gI M 0 1 ∧ gI M 0 1 < 600) ∧ k11_append_3 l1 (w32 (l2 + (-8))) (upI (upI M 1 (gI M 0 1) (w8 (w8 (pm_ishr l1 l2)))) 0 1 (w32 ((gI M 0 1) + 1))) K) else k11_append_3 l1 (w32 (l2 + (-8))) M K))) : k11_append_3 l1 l2 M K := by
  intro sc d hd
  refine fr_iload_n (pc := 3) dX11_append_3 rfl rfl ?_
  refine fr_ifc_lt (tg := 46) (pc := 4) dX11_append_4 rfl hq (fun hc1 hq => ?_) (fun hc1 hq => ?_)
  · exact fr_vret (pc := 46) dX11_append_46 rfl hq
  · refine fr_aload_n (pc := 7) dX11_append_7 rfl rfl ?_
    refine fr_getf (a := 0) (i := 1) (v := gI M 0 1) (t := 0) (pc := 8) dX11_append_8 rfl pf_11_106 rfl s0_0 rfl rfl ?_
    refine fr_sipush (pc := 11) dX11_append_11 (by decide) ?_
    refine fr_icm_ge (tg := 40) (pc := 14) dX11_append_14 rfl hq (fun hc2 hq => ?_) (fun hc2 hq => ?_)
    · refine fr_aload_n (pc := 17) dX11_append_17 rfl rfl ?_
      refine fr_getr (a := 0) (pc := 18) dX11_append_18 rfl pf_11_9 s0_0 rfl rf_0_0 ?_
      refine fr_aload_n (pc := 21) dX11_append_21 rfl rfl ?_
      refine fr_getf (a := 0) (i := 1) (v := gI M 0 1) (t := 0) (pc := 22) dX11_append_22 rfl pf_11_106 rfl s0_0 rfl rfl ?_
      refine fr_iload_n (pc := 25) dX11_append_25 rfl rfl ?_
      refine fr_iload_n (pc := 26) dX11_append_26 rfl rfl ?_
      refine fr_ishr (z := pm_ishr l1 l2) (pc := 27) dX11_append_27 rfl ?_
      refine fr_i2b (z := w8 (pm_ishr l1 l2)) (pc := 28) dX11_append_28 rfl ?_
      obtain ⟨hb3, hq⟩ := hq
      refine fr_bastore (a := 1) (pc := 29) dX11_append_29 rfl s0_1 hb3 nr_1 ?_
      refine fr_aload_n (pc := 30) dX11_append_30 rfl rfl ?_
      refine fr_dup (pc := 31) dX11_append_31 pm_t2 ?_
      refine fr_getf (a := 0) (i := 1) (v := gI M 0 1) (t := 0) (pc := 32) dX11_append_32 rfl pf_11_106 rfl s0_0 rfl (gI_ne _ _ _ _ (by decide)) ?_
      refine fr_iconst (pc := 35) dX11_append_35 (by decide) ?_
      refine fr_iadd (z := w32 ((gI M 0 1) + 1)) (pc := 36) dX11_append_36 rfl ?_
      refine fr_put (a := 0) (i := 1) (pc := 37) dX11_append_37 rfl pf_11_106 rfl s0_0 rfl rfl nf_0_1 rfl ?_
      refine fr_iinc (z := w32 (l2 + (-8))) (ls2 := [(2, 0), (0, l1), (0, w32 (l2 + (-8)))]) (pc := 40) dX11_append_40 (Nat.le_of_ble_eq_true rfl) rfl rfl rfl ?_
      refine fr_goto (tg := 3) (pc := 43) dX11_append_43 rfl ?_
      exact hq sc d hd
    · refine fr_iinc (z := w32 (l2 + (-8))) (ls2 := [(2, 0), (0, l1), (0, w32 (l2 + (-8)))]) (pc := 40) dX11_append_40 (Nat.le_of_ble_eq_true rfl) rfl rfl rfl ?_
      refine fr_goto (tg := 3) (pc := 43) dX11_append_43 rfl ?_
      exact hq sc d hd
theorem k11_program_r {a1 : Int} {M : pm_M} {K : Int → pm_M → Prop} (hq : (if a1 < 0 then K (-1) M else (if a1 ≤ gI M 0 1 then k4_read 36 a1 (upI M 0 1 0) (fun r4 M3 => (if r4 = 0 then k4_read 2 a1 M3 (fun r7 M6 => K (gI M6 2 15) (upI (upI (upI (upI M6 0 14 0) 132 11 0) 138 14 0) 141 3 (-1))) else K (w32 ((-2) - r4)) M3)) else K (-1) M))) : k11_program a1 M K := by
  intro sc d hd
  refine fr_iload_n (pc := 0) dX11_program_0 rfl rfl ?_
  refine fr_ifc_lt (tg := 12) (pc := 1) dX11_program_1 rfl hq (fun hc1 hq => ?_) (fun hc1 hq => ?_)
  · refine fr_iconst (pc := 12) dX11_program_12 (by decide) ?_
    exact fr_iret (pc := 13) dX11_program_13 (Or.inl rfl) hq
  · refine fr_iload_n (pc := 4) dX11_program_4 rfl rfl ?_
    refine fr_aload_n (pc := 5) dX11_program_5 rfl rfl ?_
    refine fr_getf (a := 0) (i := 1) (v := gI M 0 1) (t := 0) (pc := 6) dX11_program_6 rfl pf_11_106 rfl s0_0 rfl rfl ?_
    refine fr_icm_le (tg := 14) (pc := 9) dX11_program_9 rfl hq (fun hc2 hq => ?_) (fun hc2 hq => ?_)
    · refine fr_aload_n (pc := 14) dX11_program_14 rfl rfl ?_
      refine fr_iconst (pc := 15) dX11_program_15 (by decide) ?_
      refine fr_put (a := 0) (i := 1) (pc := 16) dX11_program_16 rfl pf_11_106 rfl s0_0 rfl rfl nf_0_1 rfl ?_
      refine fr_aload_n (pc := 19) dX11_program_19 rfl rfl ?_
      refine fr_getr (a := 0) (pc := 20) dX11_program_20 rfl pf_11_43 s0_0 rfl rf_0_2 ?_
      refine fr_iload_n (pc := 23) dX11_program_23 rfl rfl ?_
      refine fr_aload_n (pc := 24) dX11_program_24 rfl rfl ?_
      refine fr_getr (a := 0) (pc := 25) dX11_program_25 rfl pf_11_27 s0_0 rfl rf_0_6 ?_
      refine fr_inVI (a := 71) (as := [(0, a1), (2, 36)]) (rest := []) (ls' := [(2, 71), (0, a1), (2, 36), (9, 0)]) (c1 := 0) (c2 := 0) (pc := 28) dX11_program_28 pl_11_114 rfl ⟨Nat.le_of_ble_eq_true rfl, Nat.le_of_ble_eq_true rfl⟩ rfl rfl rfl s0_71 (Nat.le_of_ble_eq_true rfl) (by omega) rfl rfl (pm_zc _) (hq sc _ (by omega)) (fun r4 M3 hq => ?_)
      refine fr_istore_n (ls2 := [(2, 0), (0, a1), (0, r4)]) (pc := 31) dX11_program_31 rfl (Nat.le_of_ble_eq_true rfl) rfl ?_
      refine fr_iload_n (pc := 32) dX11_program_32 rfl rfl ?_
      refine fr_ifc_eq (tg := 41) (pc := 33) dX11_program_33 rfl hq (fun hc5 hq => ?_) (fun hc5 hq => ?_)
      · refine fr_aload_n (pc := 41) dX11_program_41 rfl rfl ?_
        refine fr_getr (a := 0) (pc := 42) dX11_program_42 rfl pf_11_43 s0_0 rfl rf_0_2 ?_
        refine fr_iload_n (pc := 45) dX11_program_45 rfl rfl ?_
        refine fr_aload_n (pc := 46) dX11_program_46 rfl rfl ?_
        refine fr_getr (a := 0) (pc := 47) dX11_program_47 rfl pf_11_16 s0_0 rfl rf_0_4 ?_
        refine fr_inVI (a := 71) (as := [(0, a1), (2, 2)]) (rest := []) (ls' := [(2, 71), (0, a1), (2, 2), (9, 0)]) (c1 := 0) (c2 := 0) (pc := 50) dX11_program_50 pl_11_114 rfl ⟨Nat.le_of_ble_eq_true rfl, Nat.le_of_ble_eq_true rfl⟩ rfl rfl rfl s0_71 (Nat.le_of_ble_eq_true rfl) (by omega) rfl rfl (pm_zc _) (hq sc _ (by omega)) (fun r7 M6 hq => ?_)
        refine fr_pop (pc := 53) dX11_program_53 pm_t0 ?_
        refine fr_aload_n (pc := 54) dX11_program_54 rfl rfl ?_
        refine fr_inVV (a := 0) (as := []) (rest := []) (ls' := [(2, 0)]) (c1 := 0) (c2 := 0) (pc := 55) dX11_program_55 pl_11_118 rfl ⟨Nat.le_of_ble_eq_true rfl, Nat.le_of_ble_eq_true rfl⟩ rfl rfl rfl s0_0 (Nat.le_of_ble_eq_true rfl) (by omega) rfl rfl (pm_zc _) ?_ (fun M' h => h)
        refine fr_aload_n (pc := 0) dX11_forgetAnswers_0 rfl rfl ?_
        refine fr_iconst (pc := 1) dX11_forgetAnswers_1 (by decide) ?_
        refine fr_put (a := 0) (i := 14) (pc := 2) dX11_forgetAnswers_2 rfl pf_11_328 rfl s0_0 rfl rfl nf_0_14 rfl ?_
        refine fr_aload_n (pc := 5) dX11_forgetAnswers_5 rfl rfl ?_
        refine fr_getr (a := 0) (pc := 6) dX11_forgetAnswers_6 rfl pf_11_86 s0_0 rfl rf_0_11 ?_
        refine fr_iconst (pc := 9) dX11_forgetAnswers_9 (by decide) ?_
        refine fr_put (a := 132) (i := 11) (pc := 10) dX11_forgetAnswers_10 rfl pf_11_337 rfl s0_132 rfl rfl nf_132_11 rfl ?_
        refine fr_aload_n (pc := 13) dX11_forgetAnswers_13 rfl rfl ?_
        refine fr_getr (a := 0) (pc := 14) dX11_forgetAnswers_14 rfl pf_11_93 s0_0 rfl rf_0_12 ?_
        refine fr_iconst (pc := 17) dX11_forgetAnswers_17 (by decide) ?_
        refine fr_put (a := 138) (i := 14) (pc := 18) dX11_forgetAnswers_18 rfl pf_11_340 rfl s0_138 rfl rfl nf_138_14 rfl ?_
        refine fr_aload_n (pc := 21) dX11_forgetAnswers_21 rfl rfl ?_
        refine fr_getr (a := 0) (pc := 22) dX11_forgetAnswers_22 rfl pf_11_102 s0_0 rfl rf_0_13 ?_
        refine fr_iconst (pc := 25) dX11_forgetAnswers_25 (by decide) ?_
        refine fr_put (a := 141) (i := 3) (pc := 26) dX11_forgetAnswers_26 rfl pf_11_341 rfl s0_141 rfl rfl nf_141_3 rfl ?_
        refine fr_vret (pc := 29) dX11_forgetAnswers_29 rfl ?_
        refine fr_aload_n (pc := 58) dX11_program_58 rfl rfl ?_
        refine fr_getr (a := 0) (pc := 59) dX11_program_59 rfl pf_11_16 s0_0 rfl rf_0_4 ?_
        refine fr_getf (a := 2) (i := 15) (v := gI M6 2 15) (t := 0) (pc := 62) dX11_program_62 rfl pf_11_121 rfl s0_2 rfl ((gI_ne _ _ _ _ (by decide)).trans ((gI_ne _ _ _ _ (by decide)).trans ((gI_ne _ _ _ _ (by decide)).trans (gI_ne _ _ _ _ (by decide))))) ?_
        exact fr_iret (pc := 65) dX11_program_65 (Or.inl rfl) hq
      · refine fr_bipush (pc := 36) dX11_program_36 (by decide) ?_
        refine fr_iload_n (pc := 38) dX11_program_38 rfl rfl ?_
        refine fr_isub (z := w32 ((-2) - r4)) (pc := 39) dX11_program_39 rfl ?_
        exact fr_iret (pc := 40) dX11_program_40 (Or.inl rfl) hq
    · refine fr_iconst (pc := 12) dX11_program_12 (by decide) ?_
      exact fr_iret (pc := 13) dX11_program_13 (Or.inl rfl) hq
theorem k4_read_r {o : Nat} {a1 : Int} {M : pm_M} {K : Int → pm_M → Prop} (ho : o = 2 ∨ o = 36) (hq : k0_clear o (upI M 71 1 (o : Int)) (fun M1 => k7_start a1 M1 (fun M3 => k4_readStatement 200 o (-1) 0 0 M3 (fun M5 => k4_read_29 o 0 M5 K)))) : k4_read o a1 M K := by
  intro sc d hd
  rcases ho with rfl | rfl
  · refine fr_aload_n (pc := 0) dX4_read_0 rfl rfl ?_
    refine fr_aload_n (pc := 1) dX4_read_1 rfl rfl ?_
    refine fr_put (a := 71) (i := 1) (pc := 2) dX4_read_2 rfl pf_4_15 rfl s0_71 rfl rfl nf_71_1 rfl ?_
    refine fr_aload_n (pc := 5) dX4_read_5 rfl rfl ?_
    refine fr_getf (a := 71) (i := 1) (v := 2) (t := 2) (pc := 6) dX4_read_6 rfl pf_4_15 rfl s0_71 rfl (gI_eq _ _ _ _) ?_
    refine fr_inVV (a := 2) (as := []) (rest := []) (ls' := [(2, 2)]) (c1 := 0) (c2 := 0) (pc := 9) dX4_read_9 pl_4_19 rfl ⟨Nat.le_of_ble_eq_true rfl, Nat.le_of_ble_eq_true rfl⟩ rfl rfl rfl s0_2 (Nat.le_of_ble_eq_true rfl) (by omega) rfl rfl (pm_zc _) (hq sc _ (by omega)) (fun M1 hq => ?_)
    refine fr_aload_n (pc := 12) dX4_read_12 rfl rfl ?_
    refine fr_getr (a := 71) (pc := 13) dX4_read_13 rfl pf_4_9 s0_71 rfl rf_71_0 ?_
    refine fr_iload_n (pc := 16) dX4_read_16 rfl rfl ?_
    refine fr_inVV (a := 70) (as := [(0, a1)]) (rest := []) (ls' := [(2, 70), (0, a1)]) (c1 := 0) (c2 := 0) (pc := 17) dX4_read_17 pl_4_24 rfl ⟨Nat.le_of_ble_eq_true rfl, Nat.le_of_ble_eq_true rfl⟩ rfl rfl rfl s0_70 (Nat.le_of_ble_eq_true rfl) (by omega) rfl rfl (pm_zc _) (hq sc _ (by omega)) (fun M3 hq => ?_)
    refine fr_aload_n (pc := 20) dX4_read_20 rfl rfl ?_
    refine fr_iconst (pc := 21) dX4_read_21 (by decide) ?_
    refine fr_iconst (pc := 22) dX4_read_22 (by decide) ?_
    refine fr_iconst (pc := 23) dX4_read_23 (by decide) ?_
    refine fr_inVV (a := 71) (as := [(0, (-1)), (0, 0), (0, 0)]) (rest := []) (ls' := [(2, 71), (0, (-1)), (0, 0), (0, 0), (9, 0), (9, 0)]) (c1 := 0) (c2 := 0) (pc := 24) dX4_read_24 pl_4_30 rfl ⟨Nat.le_of_ble_eq_true rfl, Nat.le_of_ble_eq_true rfl⟩ rfl rfl rfl s0_71 (Nat.le_of_ble_eq_true rfl) (by omega) rfl rfl (pm_zc _) (hq sc _ (by omega)) (fun M5 hq => ?_)
    refine fr_iconst (pc := 27) dX4_read_27 (by decide) ?_
    refine fr_istore_n (ls2 := [(2, 71), (0, a1), (2, 2), (0, 0)]) (pc := 28) dX4_read_28 rfl (Nat.le_of_ble_eq_true rfl) rfl ?_
    exact hq sc d hd (0, a1) pm_t0 (2, 2) pm_t2
  · refine fr_aload_n (pc := 0) dX4_read_0 rfl rfl ?_
    refine fr_aload_n (pc := 1) dX4_read_1 rfl rfl ?_
    refine fr_put (a := 71) (i := 1) (pc := 2) dX4_read_2 rfl pf_4_15 rfl s0_71 rfl rfl nf_71_1 rfl ?_
    refine fr_aload_n (pc := 5) dX4_read_5 rfl rfl ?_
    refine fr_getf (a := 71) (i := 1) (v := 36) (t := 2) (pc := 6) dX4_read_6 rfl pf_4_15 rfl s0_71 rfl (gI_eq _ _ _ _) ?_
    refine fr_inVV (a := 36) (as := []) (rest := []) (ls' := [(2, 36)]) (c1 := 0) (c2 := 0) (pc := 9) dX4_read_9 pl_4_19 rfl ⟨Nat.le_of_ble_eq_true rfl, Nat.le_of_ble_eq_true rfl⟩ rfl rfl rfl s0_36 (Nat.le_of_ble_eq_true rfl) (by omega) rfl rfl (pm_zc _) (hq sc _ (by omega)) (fun M1 hq => ?_)
    refine fr_aload_n (pc := 12) dX4_read_12 rfl rfl ?_
    refine fr_getr (a := 71) (pc := 13) dX4_read_13 rfl pf_4_9 s0_71 rfl rf_71_0 ?_
    refine fr_iload_n (pc := 16) dX4_read_16 rfl rfl ?_
    refine fr_inVV (a := 70) (as := [(0, a1)]) (rest := []) (ls' := [(2, 70), (0, a1)]) (c1 := 0) (c2 := 0) (pc := 17) dX4_read_17 pl_4_24 rfl ⟨Nat.le_of_ble_eq_true rfl, Nat.le_of_ble_eq_true rfl⟩ rfl rfl rfl s0_70 (Nat.le_of_ble_eq_true rfl) (by omega) rfl rfl (pm_zc _) (hq sc _ (by omega)) (fun M3 hq => ?_)
    refine fr_aload_n (pc := 20) dX4_read_20 rfl rfl ?_
    refine fr_iconst (pc := 21) dX4_read_21 (by decide) ?_
    refine fr_iconst (pc := 22) dX4_read_22 (by decide) ?_
    refine fr_iconst (pc := 23) dX4_read_23 (by decide) ?_
    refine fr_inVV (a := 71) (as := [(0, (-1)), (0, 0), (0, 0)]) (rest := []) (ls' := [(2, 71), (0, (-1)), (0, 0), (0, 0), (9, 0), (9, 0)]) (c1 := 0) (c2 := 0) (pc := 24) dX4_read_24 pl_4_30 rfl ⟨Nat.le_of_ble_eq_true rfl, Nat.le_of_ble_eq_true rfl⟩ rfl rfl rfl s0_71 (Nat.le_of_ble_eq_true rfl) (by omega) rfl rfl (pm_zc _) (hq sc _ (by omega)) (fun M5 hq => ?_)
    refine fr_iconst (pc := 27) dX4_read_27 (by decide) ?_
    refine fr_istore_n (ls2 := [(2, 71), (0, a1), (2, 36), (0, 0)]) (pc := 28) dX4_read_28 rfl (Nat.le_of_ble_eq_true rfl) rfl ?_
    exact hq sc d hd (0, a1) pm_t0 (2, 36) pm_t2
theorem k4_read_29_r {o : Nat} {l3 : Int} {M : pm_M} {K : Int → pm_M → Prop} (ho : o = 2 ∨ o = 36) (hq : (if l3 < 600 then (if gI M 70 6 = 0 then (if gI M 70 4 = 0 then (gI M 71 1 = (o : Int) ∧ (if gI M o 15 ≤ 60 then k0_link o M (fun M6 => K 0 M6) else K 2 M)) else k4_readStatement 200 o (-1) 0 0 M (fun M8 => k4_read_29 o (w32 (l3 + 1)) M8 K)) else K (gI M 70 6) M) else (if gI M 70 6 = 0 then (gI M 71 1 = (o : Int) ∧ (if gI M o 15 ≤ 60 then k0_link o M (fun M13 => K 0 M13) else K 2 M)) else K (gI M 70 6) M))) : k4_read_29 o l3 M K := by
  intro sc d hd z1 hz1 z2 hz2
  rcases ho with rfl | rfl
  · refine fr_iload_n (pc := 29) dX4_read_29 rfl rfl ?_
    refine fr_sipush (pc := 30) dX4_read_30 (by decide) ?_
    refine fr_icm_ge (tg := 69) (pc := 33) dX4_read_33 rfl hq (fun hc1 hq => ?_) (fun hc1 hq => ?_)
    · refine fr_aload_n (pc := 36) dX4_read_36 rfl rfl ?_
      refine fr_getr (a := 71) (pc := 37) dX4_read_37 rfl pf_4_9 s0_71 rfl rf_71_0 ?_
      refine fr_getf (a := 70) (i := 6) (v := gI M 70 6) (t := 0) (pc := 40) dX4_read_40 rfl pf_4_34 rfl s0_70 rfl rfl ?_
      refine fr_ifc_ne (tg := 69) (pc := 43) dX4_read_43 rfl hq (fun hc2 hq => ?_) (fun hc2 hq => ?_)
      · refine fr_aload_n (pc := 46) dX4_read_46 rfl rfl ?_
        refine fr_getr (a := 71) (pc := 47) dX4_read_47 rfl pf_4_9 s0_71 rfl rf_71_0 ?_
        refine fr_getf (a := 70) (i := 4) (v := gI M 70 4) (t := 0) (pc := 50) dX4_read_50 rfl pf_4_38 rfl s0_70 rfl rfl ?_
        refine fr_ifc_eq (tg := 69) (pc := 53) dX4_read_53 rfl hq (fun hc3 hq => ?_) (fun hc3 hq => ?_)
        · refine fr_aload_n (pc := 69) dX4_read_69 rfl rfl ?_
          refine fr_getr (a := 71) (pc := 70) dX4_read_70 rfl pf_4_9 s0_71 rfl rf_71_0 ?_
          refine fr_getf (a := 70) (i := 6) (v := gI M 70 6) (t := 0) (pc := 73) dX4_read_73 rfl pf_4_34 rfl s0_70 rfl rfl ?_
          refine fr_ifcT (tg := 87) (pc := 76) dX4_read_76 (decide_eq_true hc2) rfl ?_
          refine fr_aload_n (pc := 87) dX4_read_87 rfl rfl ?_
          obtain ⟨ho4, hq⟩ := hq
          refine fr_getf (a := 71) (i := 1) (v := 2) (t := 2) (pc := 88) dX4_read_88 rfl pf_4_15 rfl s0_71 rfl ho4 ?_
          refine fr_getf (a := 2) (i := 15) (v := gI M 2 15) (t := 0) (pc := 91) dX4_read_91 rfl pf_4_41 rfl s0_2 rfl rfl ?_
          refine fr_bipush (pc := 94) dX4_read_94 (by decide) ?_
          refine fr_icm_le (tg := 101) (pc := 96) dX4_read_96 rfl hq (fun hc5 hq => ?_) (fun hc5 hq => ?_)
          · refine fr_aload_n (pc := 101) dX4_read_101 rfl rfl ?_
            refine fr_getf (a := 71) (i := 1) (v := 2) (t := 2) (pc := 102) dX4_read_102 rfl pf_4_15 rfl s0_71 rfl ho4 ?_
            refine fr_inVV (a := 2) (as := []) (rest := []) (ls' := [(2, 2), (9, 0), (9, 0)]) (c1 := 0) (c2 := 0) (pc := 105) dX4_read_105 pl_4_44 rfl ⟨Nat.le_of_ble_eq_true rfl, Nat.le_of_ble_eq_true rfl⟩ rfl rfl rfl s0_2 (Nat.le_of_ble_eq_true rfl) (by omega) rfl rfl (pm_zc _) (hq sc _ (by omega)) (fun M6 hq => ?_)
            refine fr_iconst (pc := 108) dX4_read_108 (by decide) ?_
            exact fr_iret (pc := 109) dX4_read_109 (Or.inl rfl) hq
          · refine fr_iconst (pc := 99) dX4_read_99 (by decide) ?_
            exact fr_iret (pc := 100) dX4_read_100 (Or.inl rfl) hq
        · refine fr_aload_n (pc := 56) dX4_read_56 rfl rfl ?_
          refine fr_iconst (pc := 57) dX4_read_57 (by decide) ?_
          refine fr_iconst (pc := 58) dX4_read_58 (by decide) ?_
          refine fr_iconst (pc := 59) dX4_read_59 (by decide) ?_
          refine fr_inVV (a := 71) (as := [(0, (-1)), (0, 0), (0, 0)]) (rest := []) (ls' := [(2, 71), (0, (-1)), (0, 0), (0, 0), (9, 0), (9, 0)]) (c1 := 0) (c2 := 0) (pc := 60) dX4_read_60 pl_4_30 rfl ⟨Nat.le_of_ble_eq_true rfl, Nat.le_of_ble_eq_true rfl⟩ rfl rfl rfl s0_71 (Nat.le_of_ble_eq_true rfl) (by omega) rfl rfl (pm_zc _) (hq sc _ (by omega)) (fun M8 hq => ?_)
          refine fr_iinc (z := w32 (l3 + 1)) (ls2 := [(2, 71), z1, z2, (0, w32 (l3 + 1))]) (pc := 63) dX4_read_63 (Nat.le_of_ble_eq_true rfl) rfl rfl (pm_st1z hz2 rfl rfl) ?_
          refine fr_goto (tg := 29) (pc := 66) dX4_read_66 rfl ?_
          exact hq sc d hd z1 hz1 z2 hz2
      · refine fr_aload_n (pc := 69) dX4_read_69 rfl rfl ?_
        refine fr_getr (a := 71) (pc := 70) dX4_read_70 rfl pf_4_9 s0_71 rfl rf_71_0 ?_
        refine fr_getf (a := 70) (i := 6) (v := gI M 70 6) (t := 0) (pc := 73) dX4_read_73 rfl pf_4_34 rfl s0_70 rfl rfl ?_
        refine fr_ifcF (tg := 87) (pc := 76) dX4_read_76 (decide_eq_false hc2) rfl ?_
        refine fr_aload_n (pc := 79) dX4_read_79 rfl rfl ?_
        refine fr_getr (a := 71) (pc := 80) dX4_read_80 rfl pf_4_9 s0_71 rfl rf_71_0 ?_
        refine fr_getf (a := 70) (i := 6) (v := gI M 70 6) (t := 0) (pc := 83) dX4_read_83 rfl pf_4_34 rfl s0_70 rfl rfl ?_
        exact fr_iret (pc := 86) dX4_read_86 (Or.inl rfl) hq
    · refine fr_aload_n (pc := 69) dX4_read_69 rfl rfl ?_
      refine fr_getr (a := 71) (pc := 70) dX4_read_70 rfl pf_4_9 s0_71 rfl rf_71_0 ?_
      refine fr_getf (a := 70) (i := 6) (v := gI M 70 6) (t := 0) (pc := 73) dX4_read_73 rfl pf_4_34 rfl s0_70 rfl rfl ?_
      refine fr_ifc_eq (tg := 87) (pc := 76) dX4_read_76 rfl hq (fun hc10 hq => ?_) (fun hc10 hq => ?_)
      · refine fr_aload_n (pc := 87) dX4_read_87 rfl rfl ?_
        obtain ⟨ho11, hq⟩ := hq
        refine fr_getf (a := 71) (i := 1) (v := 2) (t := 2) (pc := 88) dX4_read_88 rfl pf_4_15 rfl s0_71 rfl ho11 ?_
        refine fr_getf (a := 2) (i := 15) (v := gI M 2 15) (t := 0) (pc := 91) dX4_read_91 rfl pf_4_41 rfl s0_2 rfl rfl ?_
        refine fr_bipush (pc := 94) dX4_read_94 (by decide) ?_
        refine fr_icm_le (tg := 101) (pc := 96) dX4_read_96 rfl hq (fun hc12 hq => ?_) (fun hc12 hq => ?_)
        · refine fr_aload_n (pc := 101) dX4_read_101 rfl rfl ?_
          refine fr_getf (a := 71) (i := 1) (v := 2) (t := 2) (pc := 102) dX4_read_102 rfl pf_4_15 rfl s0_71 rfl ho11 ?_
          refine fr_inVV (a := 2) (as := []) (rest := []) (ls' := [(2, 2), (9, 0), (9, 0)]) (c1 := 0) (c2 := 0) (pc := 105) dX4_read_105 pl_4_44 rfl ⟨Nat.le_of_ble_eq_true rfl, Nat.le_of_ble_eq_true rfl⟩ rfl rfl rfl s0_2 (Nat.le_of_ble_eq_true rfl) (by omega) rfl rfl (pm_zc _) (hq sc _ (by omega)) (fun M13 hq => ?_)
          refine fr_iconst (pc := 108) dX4_read_108 (by decide) ?_
          exact fr_iret (pc := 109) dX4_read_109 (Or.inl rfl) hq
        · refine fr_iconst (pc := 99) dX4_read_99 (by decide) ?_
          exact fr_iret (pc := 100) dX4_read_100 (Or.inl rfl) hq
      · refine fr_aload_n (pc := 79) dX4_read_79 rfl rfl ?_
        refine fr_getr (a := 71) (pc := 80) dX4_read_80 rfl pf_4_9 s0_71 rfl rf_71_0 ?_
        refine fr_getf (a := 70) (i := 6) (v := gI M 70 6) (t := 0) (pc := 83) dX4_read_83 rfl pf_4_34 rfl s0_70 rfl rfl ?_
        exact fr_iret (pc := 86) dX4_read_86 (Or.inl rfl) hq
  · refine fr_iload_n (pc := 29) dX4_read_29 rfl rfl ?_
    refine fr_sipush (pc := 30) dX4_read_30 (by decide) ?_
    refine fr_icm_ge (tg := 69) (pc := 33) dX4_read_33 rfl hq (fun hc1 hq => ?_) (fun hc1 hq => ?_)
    · refine fr_aload_n (pc := 36) dX4_read_36 rfl rfl ?_
      refine fr_getr (a := 71) (pc := 37) dX4_read_37 rfl pf_4_9 s0_71 rfl rf_71_0 ?_
      refine fr_getf (a := 70) (i := 6) (v := gI M 70 6) (t := 0) (pc := 40) dX4_read_40 rfl pf_4_34 rfl s0_70 rfl rfl ?_
      refine fr_ifc_ne (tg := 69) (pc := 43) dX4_read_43 rfl hq (fun hc2 hq => ?_) (fun hc2 hq => ?_)
      · refine fr_aload_n (pc := 46) dX4_read_46 rfl rfl ?_
        refine fr_getr (a := 71) (pc := 47) dX4_read_47 rfl pf_4_9 s0_71 rfl rf_71_0 ?_
        refine fr_getf (a := 70) (i := 4) (v := gI M 70 4) (t := 0) (pc := 50) dX4_read_50 rfl pf_4_38 rfl s0_70 rfl rfl ?_
        refine fr_ifc_eq (tg := 69) (pc := 53) dX4_read_53 rfl hq (fun hc3 hq => ?_) (fun hc3 hq => ?_)
        · refine fr_aload_n (pc := 69) dX4_read_69 rfl rfl ?_
          refine fr_getr (a := 71) (pc := 70) dX4_read_70 rfl pf_4_9 s0_71 rfl rf_71_0 ?_
          refine fr_getf (a := 70) (i := 6) (v := gI M 70 6) (t := 0) (pc := 73) dX4_read_73 rfl pf_4_34 rfl s0_70 rfl rfl ?_
          refine fr_ifcT (tg := 87) (pc := 76) dX4_read_76 (decide_eq_true hc2) rfl ?_
          refine fr_aload_n (pc := 87) dX4_read_87 rfl rfl ?_
          obtain ⟨ho4, hq⟩ := hq
          refine fr_getf (a := 71) (i := 1) (v := 36) (t := 2) (pc := 88) dX4_read_88 rfl pf_4_15 rfl s0_71 rfl ho4 ?_
          refine fr_getf (a := 36) (i := 15) (v := gI M 36 15) (t := 0) (pc := 91) dX4_read_91 rfl pf_4_41 rfl s0_36 rfl rfl ?_
          refine fr_bipush (pc := 94) dX4_read_94 (by decide) ?_
          refine fr_icm_le (tg := 101) (pc := 96) dX4_read_96 rfl hq (fun hc5 hq => ?_) (fun hc5 hq => ?_)
          · refine fr_aload_n (pc := 101) dX4_read_101 rfl rfl ?_
            refine fr_getf (a := 71) (i := 1) (v := 36) (t := 2) (pc := 102) dX4_read_102 rfl pf_4_15 rfl s0_71 rfl ho4 ?_
            refine fr_inVV (a := 36) (as := []) (rest := []) (ls' := [(2, 36), (9, 0), (9, 0)]) (c1 := 0) (c2 := 0) (pc := 105) dX4_read_105 pl_4_44 rfl ⟨Nat.le_of_ble_eq_true rfl, Nat.le_of_ble_eq_true rfl⟩ rfl rfl rfl s0_36 (Nat.le_of_ble_eq_true rfl) (by omega) rfl rfl (pm_zc _) (hq sc _ (by omega)) (fun M6 hq => ?_)
            refine fr_iconst (pc := 108) dX4_read_108 (by decide) ?_
            exact fr_iret (pc := 109) dX4_read_109 (Or.inl rfl) hq
          · refine fr_iconst (pc := 99) dX4_read_99 (by decide) ?_
            exact fr_iret (pc := 100) dX4_read_100 (Or.inl rfl) hq
        · refine fr_aload_n (pc := 56) dX4_read_56 rfl rfl ?_
          refine fr_iconst (pc := 57) dX4_read_57 (by decide) ?_
          refine fr_iconst (pc := 58) dX4_read_58 (by decide) ?_
          refine fr_iconst (pc := 59) dX4_read_59 (by decide) ?_
          refine fr_inVV (a := 71) (as := [(0, (-1)), (0, 0), (0, 0)]) (rest := []) (ls' := [(2, 71), (0, (-1)), (0, 0), (0, 0), (9, 0), (9, 0)]) (c1 := 0) (c2 := 0) (pc := 60) dX4_read_60 pl_4_30 rfl ⟨Nat.le_of_ble_eq_true rfl, Nat.le_of_ble_eq_true rfl⟩ rfl rfl rfl s0_71 (Nat.le_of_ble_eq_true rfl) (by omega) rfl rfl (pm_zc _) (hq sc _ (by omega)) (fun M8 hq => ?_)
          refine fr_iinc (z := w32 (l3 + 1)) (ls2 := [(2, 71), z1, z2, (0, w32 (l3 + 1))]) (pc := 63) dX4_read_63 (Nat.le_of_ble_eq_true rfl) rfl rfl (pm_st1z hz2 rfl rfl) ?_
          refine fr_goto (tg := 29) (pc := 66) dX4_read_66 rfl ?_
          exact hq sc d hd z1 hz1 z2 hz2
      · refine fr_aload_n (pc := 69) dX4_read_69 rfl rfl ?_
        refine fr_getr (a := 71) (pc := 70) dX4_read_70 rfl pf_4_9 s0_71 rfl rf_71_0 ?_
        refine fr_getf (a := 70) (i := 6) (v := gI M 70 6) (t := 0) (pc := 73) dX4_read_73 rfl pf_4_34 rfl s0_70 rfl rfl ?_
        refine fr_ifcF (tg := 87) (pc := 76) dX4_read_76 (decide_eq_false hc2) rfl ?_
        refine fr_aload_n (pc := 79) dX4_read_79 rfl rfl ?_
        refine fr_getr (a := 71) (pc := 80) dX4_read_80 rfl pf_4_9 s0_71 rfl rf_71_0 ?_
        refine fr_getf (a := 70) (i := 6) (v := gI M 70 6) (t := 0) (pc := 83) dX4_read_83 rfl pf_4_34 rfl s0_70 rfl rfl ?_
        exact fr_iret (pc := 86) dX4_read_86 (Or.inl rfl) hq
    · refine fr_aload_n (pc := 69) dX4_read_69 rfl rfl ?_
      refine fr_getr (a := 71) (pc := 70) dX4_read_70 rfl pf_4_9 s0_71 rfl rf_71_0 ?_
      refine fr_getf (a := 70) (i := 6) (v := gI M 70 6) (t := 0) (pc := 73) dX4_read_73 rfl pf_4_34 rfl s0_70 rfl rfl ?_
      refine fr_ifc_eq (tg := 87) (pc := 76) dX4_read_76 rfl hq (fun hc10 hq => ?_) (fun hc10 hq => ?_)
      · refine fr_aload_n (pc := 87) dX4_read_87 rfl rfl ?_
        obtain ⟨ho11, hq⟩ := hq
        refine fr_getf (a := 71) (i := 1) (v := 36) (t := 2) (pc := 88) dX4_read_88 rfl pf_4_15 rfl s0_71 rfl ho11 ?_
        refine fr_getf (a := 36) (i := 15) (v := gI M 36 15) (t := 0) (pc := 91) dX4_read_91 rfl pf_4_41 rfl s0_36 rfl rfl ?_
        refine fr_bipush (pc := 94) dX4_read_94 (by decide) ?_
        refine fr_icm_le (tg := 101) (pc := 96) dX4_read_96 rfl hq (fun hc12 hq => ?_) (fun hc12 hq => ?_)
        · refine fr_aload_n (pc := 101) dX4_read_101 rfl rfl ?_
          refine fr_getf (a := 71) (i := 1) (v := 36) (t := 2) (pc := 102) dX4_read_102 rfl pf_4_15 rfl s0_71 rfl ho11 ?_
          refine fr_inVV (a := 36) (as := []) (rest := []) (ls' := [(2, 36), (9, 0), (9, 0)]) (c1 := 0) (c2 := 0) (pc := 105) dX4_read_105 pl_4_44 rfl ⟨Nat.le_of_ble_eq_true rfl, Nat.le_of_ble_eq_true rfl⟩ rfl rfl rfl s0_36 (Nat.le_of_ble_eq_true rfl) (by omega) rfl rfl (pm_zc _) (hq sc _ (by omega)) (fun M13 hq => ?_)
          refine fr_iconst (pc := 108) dX4_read_108 (by decide) ?_
          exact fr_iret (pc := 109) dX4_read_109 (Or.inl rfl) hq
        · refine fr_iconst (pc := 99) dX4_read_99 (by decide) ?_
          exact fr_iret (pc := 100) dX4_read_100 (Or.inl rfl) hq
      · refine fr_aload_n (pc := 79) dX4_read_79 rfl rfl ?_
        refine fr_getr (a := 71) (pc := 80) dX4_read_80 rfl pf_4_9 s0_71 rfl rf_71_0 ?_
        refine fr_getf (a := 70) (i := 6) (v := gI M 70 6) (t := 0) (pc := 83) dX4_read_83 rfl pf_4_34 rfl s0_70 rfl rfl ?_
        exact fr_iret (pc := 86) dX4_read_86 (Or.inl rfl) hq
theorem k0_clear_r {o : Nat} {M : pm_M} {K : pm_M → Prop} (ho : o = 2 ∨ o = 36) (hq : kJ7_fill_53178 (o + 3) 0 (upI (upI (upI (upI M o 15 0) o 16 0) o 17 0) o 18 0) (fun M1 => K M1)) : k0_clear o M K := by
  intro sc d hd
  rcases ho with rfl | rfl
  · refine fr_aload_n (pc := 0) dX0_clear_0 rfl rfl ?_
    refine fr_iconst (pc := 1) dX0_clear_1 (by decide) ?_
    refine fr_put (a := 2) (i := 15) (pc := 2) dX0_clear_2 rfl pf_0_57 rfl s0_2 rfl rfl nf_2_15 rfl ?_
    refine fr_aload_n (pc := 5) dX0_clear_5 rfl rfl ?_
    refine fr_iconst (pc := 6) dX0_clear_6 (by decide) ?_
    refine fr_put (a := 2) (i := 16) (pc := 7) dX0_clear_7 rfl pf_0_61 rfl s0_2 rfl rfl nf_2_16 rfl ?_
    refine fr_aload_n (pc := 10) dX0_clear_10 rfl rfl ?_
    refine fr_iconst (pc := 11) dX0_clear_11 (by decide) ?_
    refine fr_put (a := 2) (i := 17) (pc := 12) dX0_clear_12 rfl pf_0_64 rfl s0_2 rfl rfl nf_2_17 rfl ?_
    refine fr_aload_n (pc := 15) dX0_clear_15 rfl rfl ?_
    refine fr_iconst (pc := 16) dX0_clear_16 (by decide) ?_
    refine fr_put (a := 2) (i := 18) (pc := 17) dX0_clear_17 rfl pf_0_67 rfl s0_2 rfl rfl nf_2_18 rfl ?_
    refine fr_aload_n (pc := 20) dX0_clear_20 rfl rfl ?_
    refine fr_getr (a := 2) (pc := 21) dX0_clear_21 rfl pf_0_18 s0_2 rfl rf_2_2 ?_
    refine fr_iconst (pc := 24) dX0_clear_24 (by decide) ?_
    refine fr_inSV (as := [(2, 5), (0, 0)]) (rest := []) (ls' := [(2, 5), (0, 0), (9, 0), (9, 0)]) (c1 := 0) (c2 := 0) (pc := 25) dX0_clear_25 pl_0_70 rfl ⟨Nat.le_of_ble_eq_true rfl, Nat.le_of_ble_eq_true rfl⟩ rfl rfl  (by omega) rfl rfl (pm_zc _) (hq sc _ (by omega)) (fun M1 hq => ?_)
    exact fr_vret (pc := 28) dX0_clear_28 rfl hq
  · refine fr_aload_n (pc := 0) dX0_clear_0 rfl rfl ?_
    refine fr_iconst (pc := 1) dX0_clear_1 (by decide) ?_
    refine fr_put (a := 36) (i := 15) (pc := 2) dX0_clear_2 rfl pf_0_57 rfl s0_36 rfl rfl nf_36_15 rfl ?_
    refine fr_aload_n (pc := 5) dX0_clear_5 rfl rfl ?_
    refine fr_iconst (pc := 6) dX0_clear_6 (by decide) ?_
    refine fr_put (a := 36) (i := 16) (pc := 7) dX0_clear_7 rfl pf_0_61 rfl s0_36 rfl rfl nf_36_16 rfl ?_
    refine fr_aload_n (pc := 10) dX0_clear_10 rfl rfl ?_
    refine fr_iconst (pc := 11) dX0_clear_11 (by decide) ?_
    refine fr_put (a := 36) (i := 17) (pc := 12) dX0_clear_12 rfl pf_0_64 rfl s0_36 rfl rfl nf_36_17 rfl ?_
    refine fr_aload_n (pc := 15) dX0_clear_15 rfl rfl ?_
    refine fr_iconst (pc := 16) dX0_clear_16 (by decide) ?_
    refine fr_put (a := 36) (i := 18) (pc := 17) dX0_clear_17 rfl pf_0_67 rfl s0_36 rfl rfl nf_36_18 rfl ?_
    refine fr_aload_n (pc := 20) dX0_clear_20 rfl rfl ?_
    refine fr_getr (a := 36) (pc := 21) dX0_clear_21 rfl pf_0_18 s0_36 rfl rf_36_2 ?_
    refine fr_iconst (pc := 24) dX0_clear_24 (by decide) ?_
    refine fr_inSV (as := [(2, 39), (0, 0)]) (rest := []) (ls' := [(2, 39), (0, 0), (9, 0), (9, 0)]) (c1 := 0) (c2 := 0) (pc := 25) dX0_clear_25 pl_0_70 rfl ⟨Nat.le_of_ble_eq_true rfl, Nat.le_of_ble_eq_true rfl⟩ rfl rfl  (by omega) rfl rfl (pm_zc _) (hq sc _ (by omega)) (fun M1 hq => ?_)
    exact fr_vret (pc := 28) dX0_clear_28 rfl hq
theorem k7_start_r {a1 : Int} {M : pm_M} {K : pm_M → Prop} (hq : k7_advance (upI (upI (upI M 70 1 (if 0 < (if 600 < a1 then 600 else a1) then (if 600 < a1 then 600 else a1) else 0)) 70 2 0) 70 6 0) (fun M1 => K M1)) : k7_start a1 M K := by
  intro sc d hd
  refine fr_aload_n (pc := 0) dX7_start_0 rfl rfl ?_
  refine fr_iconst (pc := 1) dX7_start_1 (by decide) ?_
  refine fr_iload_n (pc := 2) dX7_start_2 rfl rfl ?_
  refine fr_aload_n (pc := 3) dX7_start_3 rfl rfl ?_
  refine fr_getr (a := 70) (pc := 4) dX7_start_4 rfl pf_7_9 s0_70 rfl rf_70_0 ?_
  refine fr_alen (a := 1) (v := 600) (pc := 7) dX7_start_7 rfl s0_1 (by decide) rfl ?_
  refine fr_min (pc := 8) dX7_start_8 pl_7_15 rfl (Nat.le_of_ble_eq_true rfl) ?_
  refine fr_max (pc := 11) dX7_start_11 pl_7_21 rfl (Nat.le_of_ble_eq_true rfl) ?_
  refine fr_put (a := 70) (i := 1) (pc := 14) dX7_start_14 rfl pf_7_24 rfl s0_70 rfl rfl nf_70_1 rfl ?_
  refine fr_aload_n (pc := 17) dX7_start_17 rfl rfl ?_
  refine fr_iconst (pc := 18) dX7_start_18 (by decide) ?_
  refine fr_put (a := 70) (i := 2) (pc := 19) dX7_start_19 rfl pf_7_28 rfl s0_70 rfl rfl nf_70_2 rfl ?_
  refine fr_aload_n (pc := 22) dX7_start_22 rfl rfl ?_
  refine fr_iconst (pc := 23) dX7_start_23 (by decide) ?_
  refine fr_put (a := 70) (i := 6) (pc := 24) dX7_start_24 rfl pf_7_31 rfl s0_70 rfl rfl nf_70_6 rfl ?_
  refine fr_aload_n (pc := 27) dX7_start_27 rfl rfl ?_
  refine fr_inVV (a := 70) (as := []) (rest := []) (ls' := [(2, 70), (9, 0)]) (c1 := 0) (c2 := 0) (pc := 28) dX7_start_28 pl_7_34 rfl ⟨Nat.le_of_ble_eq_true rfl, Nat.le_of_ble_eq_true rfl⟩ rfl rfl rfl s0_70 (Nat.le_of_ble_eq_true rfl) (by omega) rfl rfl (pm_zc _) (hq sc _ (by omega)) (fun M1 hq => ?_)
  exact fr_vret (pc := 31) dX7_start_31 rfl hq
theorem k7_advance_r {M : pm_M} {K : pm_M → Prop} (hq : (if gI M 70 6 = 0 then k7_advance_8 M K else K M)) : k7_advance M K := by
  intro sc d hd
  refine fr_aload_n (pc := 0) dX7_advance_0 rfl rfl ?_
  refine fr_getf (a := 70) (i := 6) (v := gI M 70 6) (t := 0) (pc := 1) dX7_advance_1 rfl pf_7_31 rfl s0_70 rfl rfl ?_
  refine fr_ifc_eq (tg := 8) (pc := 4) dX7_advance_4 rfl hq (fun hc1 hq => ?_) (fun hc1 hq => ?_)
  · exact hq sc d hd (9, 0) pm_t9
  · exact fr_vret (pc := 7) dX7_advance_7 rfl hq
theorem k7_advance_8_r {M : pm_M} {K : pm_M → Prop} (hq : (if gI M 70 2 < gI M 70 1 then ((0 ≤ gI M 70 2 ∧ gI M 70 2 < 600) ∧ (if gI M 1 (gI M 70 2) = 32 then k7_advance_8 (upI M 70 2 (w32 ((gI M 70 2) + 1))) K else (if gI M 1 (gI M 70 2) = 10 then k7_advance_8 (upI M 70 2 (w32 ((gI M 70 2) + 1))) K else k7_advance_60 M K))) else k7_advance_60 M K)) : k7_advance_8 M K := by
  intro sc d hd z1 hz1
  refine fr_aload_n (pc := 8) dX7_advance_8 rfl rfl ?_
  refine fr_getf (a := 70) (i := 2) (v := gI M 70 2) (t := 0) (pc := 9) dX7_advance_9 rfl pf_7_28 rfl s0_70 rfl rfl ?_
  refine fr_aload_n (pc := 12) dX7_advance_12 rfl rfl ?_
  refine fr_getf (a := 70) (i := 1) (v := gI M 70 1) (t := 0) (pc := 13) dX7_advance_13 rfl pf_7_24 rfl s0_70 rfl rfl ?_
  refine fr_icm_ge (tg := 60) (pc := 16) dX7_advance_16 rfl hq (fun hc1 hq => ?_) (fun hc1 hq => ?_)
  · refine fr_aload_n (pc := 19) dX7_advance_19 rfl rfl ?_
    refine fr_getr (a := 70) (pc := 20) dX7_advance_20 rfl pf_7_9 s0_70 rfl rf_70_0 ?_
    refine fr_aload_n (pc := 23) dX7_advance_23 rfl rfl ?_
    refine fr_getf (a := 70) (i := 2) (v := gI M 70 2) (t := 0) (pc := 24) dX7_advance_24 rfl pf_7_28 rfl s0_70 rfl rfl ?_
    obtain ⟨hb2, hq⟩ := hq
    refine fr_baload (a := 1) (v := gI M 1 (gI M 70 2)) (pc := 27) dX7_advance_27 rfl s0_1 hb2 (Or.inl rfl) rfl ?_
    refine fr_bipush (pc := 28) dX7_advance_28 (by decide) ?_
    refine fr_icm_eq (tg := 47) (pc := 30) dX7_advance_30 rfl hq (fun hc3 hq => ?_) (fun hc3 hq => ?_)
    · refine fr_aload_n (pc := 47) dX7_advance_47 rfl rfl ?_
      refine fr_dup (pc := 48) dX7_advance_48 pm_t2 ?_
      refine fr_getf (a := 70) (i := 2) (v := gI M 70 2) (t := 0) (pc := 49) dX7_advance_49 rfl pf_7_28 rfl s0_70 rfl rfl ?_
      refine fr_iconst (pc := 52) dX7_advance_52 (by decide) ?_
      refine fr_iadd (z := w32 ((gI M 70 2) + 1)) (pc := 53) dX7_advance_53 rfl ?_
      refine fr_put (a := 70) (i := 2) (pc := 54) dX7_advance_54 rfl pf_7_28 rfl s0_70 rfl rfl nf_70_2 rfl ?_
      refine fr_goto (tg := 8) (pc := 57) dX7_advance_57 rfl ?_
      exact hq sc d hd z1 hz1
    · refine fr_aload_n (pc := 33) dX7_advance_33 rfl rfl ?_
      refine fr_getr (a := 70) (pc := 34) dX7_advance_34 rfl pf_7_9 s0_70 rfl rf_70_0 ?_
      refine fr_aload_n (pc := 37) dX7_advance_37 rfl rfl ?_
      refine fr_getf (a := 70) (i := 2) (v := gI M 70 2) (t := 0) (pc := 38) dX7_advance_38 rfl pf_7_28 rfl s0_70 rfl rfl ?_
      refine fr_baload (a := 1) (v := gI M 1 (gI M 70 2)) (pc := 41) dX7_advance_41 rfl s0_1 hb2 (Or.inl rfl) rfl ?_
      refine fr_bipush (pc := 42) dX7_advance_42 (by decide) ?_
      refine fr_icm_ne (tg := 60) (pc := 44) dX7_advance_44 rfl hq (fun hc4 hq => ?_) (fun hc4 hq => ?_)
      · refine fr_aload_n (pc := 47) dX7_advance_47 rfl rfl ?_
        refine fr_dup (pc := 48) dX7_advance_48 pm_t2 ?_
        refine fr_getf (a := 70) (i := 2) (v := gI M 70 2) (t := 0) (pc := 49) dX7_advance_49 rfl pf_7_28 rfl s0_70 rfl rfl ?_
        refine fr_iconst (pc := 52) dX7_advance_52 (by decide) ?_
        refine fr_iadd (z := w32 ((gI M 70 2) + 1)) (pc := 53) dX7_advance_53 rfl ?_
        refine fr_put (a := 70) (i := 2) (pc := 54) dX7_advance_54 rfl pf_7_28 rfl s0_70 rfl rfl nf_70_2 rfl ?_
        refine fr_goto (tg := 8) (pc := 57) dX7_advance_57 rfl ?_
        exact hq sc d hd z1 hz1
      · exact hq sc d hd z1 hz1
  · exact hq sc d hd z1 hz1
theorem k7_advance_60_r {M : pm_M} {K : pm_M → Prop} (hq : (if gI M 70 2 < 0 then (if gI M 70 2 < gI M 70 1 then (if w32 ((gI M 70 2) + 1) < 0 then k7_signAlone 0 (upI (upI M 70 3 (gI M 70 2)) 70 5 0) (fun r5 M4 => k7_scanSign 0 (-1) r5 M4 (fun M6 => (if gI M6 70 4 = 1 then (if gI M6 70 6 = 0 then K (upI (upI M6 70 6 (w32 ((w32 (8 * (gI M6 70 3))) + 1))) 70 4 1) else K M6) else K M6))) else (if w32 ((gI M 70 2) + 1) < gI M 70 1 then ((0 ≤ w32 ((gI M 70 2) + 1) ∧ w32 ((gI M 70 2) + 1) < 600) ∧ (if pm_iand (gI M 1 (w32 ((gI M 70 2) + 1))) 255 = 61 then k7_signBeforeEqual 0 (upI (upI M 70 3 (gI M 70 2)) 70 5 0) (fun r14 M13 => k7_signAlone 0 M13 (fun r16 M15 => k7_scanSign 0 r14 r16 M15 (fun M17 => (if gI M17 70 4 = 1 then (if gI M17 70 6 = 0 then K (upI (upI M17 70 6 (w32 ((w32 (8 * (gI M17 70 3))) + 1))) 70 4 1) else K M17) else K M17)))) else k7_signAlone 0 (upI (upI M 70 3 (gI M 70 2)) 70 5 0) (fun r22 M21 => k7_scanSign 0 (-1) r22 M21 (fun M23 => (if gI M23 70 4 = 1 then (if gI M23 70 6 = 0 then K (upI (upI M23 70 6 (w32 ((w32 (8 * (gI M23 70 3))) + 1))) 70 4 1) else K M23) else K M23))))) else k7_signAlone 0 (upI (upI M 70 3 (gI M 70 2)) 70 5 0) (fun r28 M27 => k7_scanSign 0 (-1) r28 M27 (fun M29 => (if gI M29 70 4 = 1 then (if gI M29 70 6 = 0 then K (upI (upI M29 70 6 (w32 ((w32 (8 * (gI M29 70 3))) + 1))) 70 4 1) else K M29) else K M29))))) else K (upI (upI (upI M 70 3 (gI M 70 2)) 70 5 0) 70 4 0)) else (if gI M 70 2 < gI M 70 1 then ((0 ≤ gI M 70 2 ∧ gI M 70 2 < 600) ∧ (if pm_iand (gI M 1 (gI M 70 2)) 255 < 97 then (if pm_iand (gI M 1 (gI M 70 2)) 255 < 48 then (if w32 ((gI M 70 2) + 1) < 0 then k7_signAlone (pm_iand (gI M 1 (gI M 70 2)) 255) (upI (upI M 70 3 (gI M 70 2)) 70 5 0) (fun r39 M38 => k7_scanSign (pm_iand (gI M 1 (gI M 70 2)) 255) (-1) r39 M38 (fun M40 => (if gI M40 70 4 = 1 then (if gI M40 70 6 = 0 then K (upI (upI M40 70 6 (w32 ((w32 (8 * (gI M40 70 3))) + 1))) 70 4 1) else K M40) else K M40))) else (if w32 ((gI M 70 2) + 1) < gI M 70 1 then ((0 ≤ w32 ((gI M 70 2) + 1) ∧ w32 ((gI M 70 2) + 1) < 600) ∧ (if pm_iand (gI M 1 (w32 ((gI M 70 2) + 1))) 255 = 61 then k7_signBeforeEqual (pm_iand (gI M 1 (gI M 70 2)) 255) (upI (upI M 70 3 (gI M 70 2)) 70 5 0) (fun r48 M47 => k7_signAlone (pm_iand (gI M 1 (gI M 70 2)) 255) M47 (fun r50 M49 => k7_scanSign (pm_iand (gI M 1 (gI M 70 2)) 255) r48 r50 M49 (fun M51 => (if gI M51 70 4 = 1 then (if gI M51 70 6 = 0 then K (upI (upI M51 70 6 (w32 ((w32 (8 * (gI M51 70 3))) + 1))) 70 4 1) else K M51) else K M51)))) else k7_signAlone (pm_iand (gI M 1 (gI M 70 2)) 255) (upI (upI M 70 3 (gI M 70 2)) 70 5 0) (fun r56 M55 => k7_scanSign (pm_iand (gI M 1 (gI M 70 2)) 255) (-1) r56 M55 (fun M57 => (if gI M57 70 4 = 1 then (if gI M57 70 6 = 0 then K (upI (upI M57 70 6 (w32 ((w32 (8 * (gI M57 70 3))) + 1))) 70 4 1) else K M57) else K M57))))) else k7_signAlone (pm_iand (gI M 1 (gI M 70 2)) 255) (upI (upI M 70 3 (gI M 70 2)) 70 5 0) (fun r62 M61 => k7_scanSign (pm_iand (gI M 1 (gI M 70 2)) 255) (-1) r62 M61 (fun M63 => (if gI M63 70 4 = 1 then (if gI M63 70 6 = 0 then K (upI (upI M63 70 6 (w32 ((w32 (8 * (gI M63 70 3))) + 1))) 70 4 1) else K M63) else K M63))))) else (if pm_iand (gI M 1 (gI M 70 2)) 255 ≤ 57 then k7_scanNumeral (upI (upI M 70 3 (gI M 70 2)) 70 5 0) (fun M68 => (if gI M68 70 4 = 1 then (if gI M68 70 6 = 0 then K (upI (upI M68 70 6 (w32 ((w32 (8 * (gI M68 70 3))) + 1))) 70 4 1) else K M68) else K M68)) else (if w32 ((gI M 70 2) + 1) < 0 then k7_signAlone (pm_iand (gI M 1 (gI M 70 2)) 255) (upI (upI M 70 3 (gI M 70 2)) 70 5 0) (fun r74 M73 => k7_scanSign (pm_iand (gI M 1 (gI M 70 2)) 255) (-1) r74 M73 (fun M75 => (if gI M75 70 4 = 1 then (if gI M75 70 6 = 0 then K (upI (upI M75 70 6 (w32 ((w32 (8 * (gI M75 70 3))) + 1))) 70 4 1) else K M75) else K M75))) else (if w32 ((gI M 70 2) + 1) < gI M 70 1 then ((0 ≤ w32 ((gI M 70 2) + 1) ∧ w32 ((gI M 70 2) + 1) < 600) ∧ (if pm_iand (gI M 1 (w32 ((gI M 70 2) + 1))) 255 = 61 then k7_signBeforeEqual (pm_iand (gI M 1 (gI M 70 2)) 255) (upI (upI M 70 3 (gI M 70 2)) 70 5 0) (fun r83 M82 => k7_signAlone (pm_iand (gI M 1 (gI M 70 2)) 255) M82 (fun r85 M84 => k7_scanSign (pm_iand (gI M 1 (gI M 70 2)) 255) r83 r85 M84 (fun M86 => (if gI M86 70 4 = 1 then (if gI M86 70 6 = 0 then K (upI (upI M86 70 6 (w32 ((w32 (8 * (gI M86 70 3))) + 1))) 70 4 1) else K M86) else K M86)))) else k7_signAlone (pm_iand (gI M 1 (gI M 70 2)) 255) (upI (upI M 70 3 (gI M 70 2)) 70 5 0) (fun r91 M90 => k7_scanSign (pm_iand (gI M 1 (gI M 70 2)) 255) (-1) r91 M90 (fun M92 => (if gI M92 70 4 = 1 then (if gI M92 70 6 = 0 then K (upI (upI M92 70 6 (w32 ((w32 (8 * (gI M92 70 3))) + 1))) 70 4 1) else K M92) else K M92))))) else k7_signAlone (pm_iand (gI M 1 (gI M 70 2)) 255) (upI (upI M 70 3 (gI M 70 2)) 70 5 0) (fun r97 M96 => k7_scanSign (pm_iand (gI M 1 (gI M 70 2)) 255) (-1) r97 M96 (fun M98 => (if gI M98 70 4 = 1 then (if gI M98 70 6 = 0 then K (upI (upI M98 70 6 (w32 ((w32 (8 * (gI M98 70 3))) + 1))) 70 4 1) else K M98) else K M98))))))) else (if pm_iand (gI M 1 (gI M 70 2)) 255 ≤ 122 then k7_scanWord (upI (upI M 70 3 (gI M 70 2)) 70 5 0) (fun M103 => (if gI M103 70 4 = 1 then (if gI M103 70 6 = 0 then K (upI (upI M103 70 6 (w32 ((w32 (8 * (gI M103 70 3))) + 1))) 70 4 1) else K M103) else K M103)) else (if pm_iand (gI M 1 (gI M 70 2)) 255 < 48 then (if w32 ((gI M 70 2) + 1) < 0 then k7_signAlone (pm_iand (gI M 1 (gI M 70 2)) 255) (upI (upI M 70 3 (gI M 70 2)) 70 5 0) (fun r110 M109 => k7_scanSign (pm_iand (gI M 1 (gI M 70 2)) 255) (-1) r110 M109 (fun M111 => (if gI M111 70 4 = 1 then (if gI M111 70 6 = 0 then K (upI (upI M111 70 6 (w32 ((w32 (8 * (gI M111 70 3))) + 1))) 70 4 1) else K M111) else K M111))) else (if w32 ((gI M 70 2) + 1) < gI M 70 1 then ((0 ≤ w32 ((gI M 70 2) + 1) ∧ w32 ((gI M 70 2) + 1) < 600) ∧ (if pm_iand (gI M 1 (w32 ((gI M 70 2) + 1))) 255 = 61 then k7_signBeforeEqual (pm_iand (gI M 1 (gI M 70 2)) 255) (upI (upI M 70 3 (gI M 70 2)) 70 5 0) (fun r119 M118 => k7_signAlone (pm_iand (gI M 1 (gI M 70 2)) 255) M118 (fun r121 M120 => k7_scanSign (pm_iand (gI M 1 (gI M 70 2)) 255) r119 r121 M120 (fun M122 => (if gI M122 70 4 = 1 then (if gI M122 70 6 = 0 then K (upI (upI M122 70 6 (w32 ((w32 (8 * (gI M122 70 3))) + 1))) 70 4 1) else K M122) else K M122)))) else k7_signAlone (pm_iand (gI M 1 (gI M 70 2)) 255) (upI (upI M 70 3 (gI M 70 2)) 70 5 0) (fun r127 M126 => k7_scanSign (pm_iand (gI M 1 (gI M 70 2)) 255) (-1) r127 M126 (fun M128 => (if gI M128 70 4 = 1 then (if gI M128 70 6 = 0 then K (upI (upI M128 70 6 (w32 ((w32 (8 * (gI M128 70 3))) + 1))) 70 4 1) else K M128) else K M128))))) else k7_signAlone (pm_iand (gI M 1 (gI M 70 2)) 255) (upI (upI M 70 3 (gI M 70 2)) 70 5 0) (fun r133 M132 => k7_scanSign (pm_iand (gI M 1 (gI M 70 2)) 255) (-1) r133 M132 (fun M134 => (if gI M134 70 4 = 1 then (if gI M134 70 6 = 0 then K (upI (upI M134 70 6 (w32 ((w32 (8 * (gI M134 70 3))) + 1))) 70 4 1) else K M134) else K M134))))) else (if pm_iand (gI M 1 (gI M 70 2)) 255 ≤ 57 then k7_scanNumeral (upI (upI M 70 3 (gI M 70 2)) 70 5 0) (fun M139 => (if gI M139 70 4 = 1 then (if gI M139 70 6 = 0 then K (upI (upI M139 70 6 (w32 ((w32 (8 * (gI M139 70 3))) + 1))) 70 4 1) else K M139) else K M139)) else (if w32 ((gI M 70 2) + 1) < 0 then k7_signAlone (pm_iand (gI M 1 (gI M 70 2)) 255) (upI (upI M 70 3 (gI M 70 2)) 70 5 0) (fun r145 M144 => k7_scanSign (pm_iand (gI M 1 (gI M 70 2)) 255) (-1) r145 M144 (fun M146 => (if gI M146 70 4 = 1 then (if gI M146 70 6 = 0 then K (upI (upI M146 70 6 (w32 ((w32 (8 * (gI M146 70 3))) + 1))) 70 4 1) else K M146) else K M146))) else (if w32 ((gI M 70 2) + 1) < gI M 70 1 then ((0 ≤ w32 ((gI M 70 2) + 1) ∧ w32 ((gI M 70 2) + 1) < 600) ∧ (if pm_iand (gI M 1 (w32 ((gI M 70 2) + 1))) 255 = 61 then k7_signBeforeEqual (pm_iand (gI M 1 (gI M 70 2)) 255) (upI (upI M 70 3 (gI M 70 2)) 70 5 0) (fun r154 M153 => k7_signAlone (pm_iand (gI M 1 (gI M 70 2)) 255) M153 (fun r156 M155 => k7_scanSign (pm_iand (gI M 1 (gI M 70 2)) 255) r154 r156 M155 (fun M157 => (if gI M157 70 4 = 1 then (if gI M157 70 6 = 0 then K (upI (upI M157 70 6 (w32 ((w32 (8 * (gI M157 70 3))) + 1))) 70 4 1) else K M157) else K M157)))) else k7_signAlone (pm_iand (gI M 1 (gI M 70 2)) 255) (upI (upI M 70 3 (gI M 70 2)) 70 5 0) (fun r162 M161 => k7_scanSign (pm_iand (gI M 1 (gI M 70 2)) 255) (-1) r162 M161 (fun M163 => (if gI M163 70 4 = 1 then (if gI M163 70 6 = 0 then K (upI (upI M163 70 6 (w32 ((w32 (8 * (gI M163 70 3))) + 1))) 70 4 1) else K M163) else K M163))))) else k7_signAlone (pm_iand (gI M 1 (gI M 70 2)) 255) (upI (upI M 70 3 (gI M 70 2)) 70 5 0) (fun r168 M167 => k7_scanSign (pm_iand (gI M 1 (gI M 70 2)) 255) (-1) r168 M167 (fun M169 => (if gI M169 70 4 = 1 then (if gI M169 70 6 = 0 then K (upI (upI M169 70 6 (w32 ((w32 (8 * (gI M169 70 3))) + 1))) 70 4 1) else K M169) else K M169)))))))))) else K (upI (upI (upI M 70 3 (gI M 70 2)) 70 5 0) 70 4 0)))) : k7_advance_60 M K := by
  intro sc d hd z1 hz1
  refine fr_aload_n (pc := 60) dX7_advance_60 rfl rfl ?_
  refine fr_aload_n (pc := 61) dX7_advance_61 rfl rfl ?_
  refine fr_getf (a := 70) (i := 2) (v := gI M 70 2) (t := 0) (pc := 62) dX7_advance_62 rfl pf_7_28 rfl s0_70 rfl rfl ?_
  refine fr_put (a := 70) (i := 3) (pc := 65) dX7_advance_65 rfl pf_7_37 rfl s0_70 rfl rfl nf_70_3 rfl ?_
  refine fr_aload_n (pc := 68) dX7_advance_68 rfl rfl ?_
  refine fr_iconst (pc := 69) dX7_advance_69 (by decide) ?_
  refine fr_put (a := 70) (i := 5) (pc := 70) dX7_advance_70 rfl pf_7_43 rfl s0_70 rfl rfl nf_70_5 rfl ?_
  refine fr_aload_n (pc := 73) dX7_advance_73 rfl rfl ?_
  refine fr_aload_n (pc := 74) dX7_advance_74 rfl rfl ?_
  refine fr_getf (a := 70) (i := 2) (v := gI M 70 2) (t := 0) (pc := 75) dX7_advance_75 rfl pf_7_28 rfl s0_70 rfl ((gI_nf _ _ (by decide)).trans (gI_nf _ _ (by decide))) ?_
  refine fr_inVI (a := 70) (as := [(0, gI M 70 2)]) (rest := []) (ls' := [(2, 70), (0, gI M 70 2)]) (c1 := 0) (c2 := 0) (pc := 78) dX7_advance_78 pl_7_46 rfl ⟨Nat.le_of_ble_eq_true rfl, Nat.le_of_ble_eq_true rfl⟩ rfl rfl rfl s0_70 (Nat.le_of_ble_eq_true rfl) (by omega) rfl rfl (pm_zc _) ?_ (fun y M' h => h)
  refine fr_iload_n (pc := 0) dX7_byteAt_0 rfl rfl ?_
  refine fr_ifc_lt (tg := 25) (pc := 1) dX7_byteAt_1 rfl hq (fun hc1 hq => ?_) (fun hc1 hq => ?_)
  · refine fr_iconst (pc := 25) dX7_byteAt_25 (by decide) ?_
    refine fr_iret (pc := 26) dX7_byteAt_26 (Or.inl rfl) ?_
    refine fr_istore_n (ls2 := [(2, 70), (0, 0)]) (pc := 81) dX7_advance_81 rfl (Nat.le_of_ble_eq_true rfl) rfl ?_
    refine fr_aload_n (pc := 82) dX7_advance_82 rfl rfl ?_
    refine fr_getf (a := 70) (i := 2) (v := gI M 70 2) (t := 0) (pc := 83) dX7_advance_83 rfl pf_7_28 rfl s0_70 rfl ((gI_nf _ _ (by decide)).trans (gI_nf _ _ (by decide))) ?_
    refine fr_aload_n (pc := 86) dX7_advance_86 rfl rfl ?_
    refine fr_getf (a := 70) (i := 1) (v := gI M 70 1) (t := 0) (pc := 87) dX7_advance_87 rfl pf_7_24 rfl s0_70 rfl ((gI_nf _ _ (by decide)).trans (gI_nf _ _ (by decide))) ?_
    refine fr_icm_lt (tg := 101) (pc := 90) dX7_advance_90 rfl hq (fun hc2 hq => ?_) (fun hc2 hq => ?_)
    · refine fr_iload_n (pc := 101) dX7_advance_101 rfl rfl ?_
      refine fr_bipush (pc := 102) dX7_advance_102 (by decide) ?_
      refine fr_icmT (tg := 120) (pc := 104) dX7_advance_104 rfl rfl ?_
      refine fr_iload_n (pc := 120) dX7_advance_120 rfl rfl ?_
      refine fr_bipush (pc := 121) dX7_advance_121 (by decide) ?_
      refine fr_icmT (tg := 139) (pc := 123) dX7_advance_123 rfl rfl ?_
      refine fr_aload_n (pc := 139) dX7_advance_139 rfl rfl ?_
      refine fr_iload_n (pc := 140) dX7_advance_140 rfl rfl ?_
      refine fr_aload_n (pc := 141) dX7_advance_141 rfl rfl ?_
      refine fr_aload_n (pc := 142) dX7_advance_142 rfl rfl ?_
      refine fr_getf (a := 70) (i := 2) (v := gI M 70 2) (t := 0) (pc := 143) dX7_advance_143 rfl pf_7_28 rfl s0_70 rfl ((gI_nf _ _ (by decide)).trans (gI_nf _ _ (by decide))) ?_
      refine fr_iconst (pc := 146) dX7_advance_146 (by decide) ?_
      refine fr_iadd (z := w32 ((gI M 70 2) + 1)) (pc := 147) dX7_advance_147 rfl ?_
      refine fr_inVI (a := 70) (as := [(0, w32 ((gI M 70 2) + 1))]) (rest := [(0, 0), (2, 70)]) (ls' := [(2, 70), (0, w32 ((gI M 70 2) + 1))]) (c1 := 0) (c2 := 0) (pc := 148) dX7_advance_148 pl_7_46 rfl ⟨Nat.le_of_ble_eq_true rfl, Nat.le_of_ble_eq_true rfl⟩ rfl rfl rfl s0_70 (Nat.le_of_ble_eq_true rfl) (by omega) rfl rfl (pm_zc _) ?_ (fun y M' h => h)
      refine fr_iload_n (pc := 0) dX7_byteAt_0 rfl rfl ?_
      refine fr_ifc_lt (tg := 25) (pc := 1) dX7_byteAt_1 rfl hq (fun hc3 hq => ?_) (fun hc3 hq => ?_)
      · refine fr_iconst (pc := 25) dX7_byteAt_25 (by decide) ?_
        refine fr_iret (pc := 26) dX7_byteAt_26 (Or.inl rfl) ?_
        refine fr_bipush (pc := 151) dX7_advance_151 (by decide) ?_
        refine fr_icmT (tg := 163) (pc := 153) dX7_advance_153 rfl rfl ?_
        refine fr_iconst (pc := 163) dX7_advance_163 (by decide) ?_
        refine fr_iload_n (pc := 164) dX7_advance_164 rfl rfl ?_
        refine fr_inSI (as := [(0, 0)]) (rest := [(0, (-1)), (0, 0), (2, 70)]) (ls' := [(0, 0)]) (c1 := 0) (c2 := 0) (pc := 165) dX7_advance_165 pl_7_59 rfl ⟨Nat.le_of_ble_eq_true rfl, Nat.le_of_ble_eq_true rfl⟩ rfl rfl  (by omega) rfl rfl (pm_zc _) (hq sc _ (by omega)) (fun r5 M4 hq => ?_)
        refine fr_inVV (a := 70) (as := [(0, 0), (0, (-1)), (0, r5)]) (rest := []) (ls' := [(2, 70), (0, 0), (0, (-1)), (0, r5), (9, 0)]) (c1 := 0) (c2 := 0) (pc := 168) dX7_advance_168 pl_7_62 rfl ⟨Nat.le_of_ble_eq_true rfl, Nat.le_of_ble_eq_true rfl⟩ rfl rfl rfl s0_70 (Nat.le_of_ble_eq_true rfl) (by omega) rfl rfl (pm_zc _) (hq sc _ (by omega)) (fun M6 hq => ?_)
        refine fr_aload_n (pc := 171) dX7_advance_171 rfl rfl ?_
        refine fr_getf (a := 70) (i := 4) (v := gI M6 70 4) (t := 0) (pc := 172) dX7_advance_172 rfl pf_7_40 rfl s0_70 rfl rfl ?_
        refine fr_iconst (pc := 175) dX7_advance_175 (by decide) ?_
        refine fr_icm_ne (tg := 184) (pc := 176) dX7_advance_176 rfl hq (fun hc8 hq => ?_) (fun hc8 hq => ?_)
        · refine fr_aload_n (pc := 179) dX7_advance_179 rfl rfl ?_
          refine fr_iconst (pc := 180) dX7_advance_180 (by decide) ?_
          refine fr_inVV (a := 70) (as := [(0, 1)]) (rest := []) (ls' := [(2, 70), (0, 1)]) (c1 := 0) (c2 := 0) (pc := 181) dX7_advance_181 pl_7_66 rfl ⟨Nat.le_of_ble_eq_true rfl, Nat.le_of_ble_eq_true rfl⟩ rfl rfl rfl s0_70 (Nat.le_of_ble_eq_true rfl) (by omega) rfl rfl (pm_zc _) ?_ (fun M' h => h)
          refine fr_aload_n (pc := 0) dX7_refuse_0 rfl rfl ?_
          refine fr_getf (a := 70) (i := 6) (v := gI M6 70 6) (t := 0) (pc := 1) dX7_refuse_1 rfl pf_7_31 rfl s0_70 rfl rfl ?_
          refine fr_ifc_ne (tg := 25) (pc := 4) dX7_refuse_4 rfl hq (fun hc9 hq => ?_) (fun hc9 hq => ?_)
          · refine fr_aload_n (pc := 7) dX7_refuse_7 rfl rfl ?_
            refine fr_bipush (pc := 8) dX7_refuse_8 (by decide) ?_
            refine fr_aload_n (pc := 10) dX7_refuse_10 rfl rfl ?_
            refine fr_getf (a := 70) (i := 3) (v := gI M6 70 3) (t := 0) (pc := 11) dX7_refuse_11 rfl pf_7_37 rfl s0_70 rfl rfl ?_
            refine fr_imul (z := w32 (8 * (gI M6 70 3))) (pc := 14) dX7_refuse_14 rfl ?_
            refine fr_iload_n (pc := 15) dX7_refuse_15 rfl rfl ?_
            refine fr_iadd (z := w32 ((w32 (8 * (gI M6 70 3))) + 1)) (pc := 16) dX7_refuse_16 rfl ?_
            refine fr_put (a := 70) (i := 6) (pc := 17) dX7_refuse_17 rfl pf_7_31 rfl s0_70 rfl rfl nf_70_6 rfl ?_
            refine fr_aload_n (pc := 20) dX7_refuse_20 rfl rfl ?_
            refine fr_iconst (pc := 21) dX7_refuse_21 (by decide) ?_
            refine fr_put (a := 70) (i := 4) (pc := 22) dX7_refuse_22 rfl pf_7_40 rfl s0_70 rfl rfl nf_70_4 rfl ?_
            refine fr_vret (pc := 25) dX7_refuse_25 rfl ?_
            exact fr_vret (pc := 184) dX7_advance_184 rfl hq
          · refine fr_vret (pc := 25) dX7_refuse_25 rfl ?_
            exact fr_vret (pc := 184) dX7_advance_184 rfl hq
        · exact fr_vret (pc := 184) dX7_advance_184 rfl hq
      · refine fr_iload_n (pc := 4) dX7_byteAt_4 rfl rfl ?_
        refine fr_aload_n (pc := 5) dX7_byteAt_5 rfl rfl ?_
        refine fr_getf (a := 70) (i := 1) (v := gI M 70 1) (t := 0) (pc := 6) dX7_byteAt_6 rfl pf_7_24 rfl s0_70 rfl ((gI_nf _ _ (by decide)).trans (gI_nf _ _ (by decide))) ?_
        refine fr_icm_ge (tg := 25) (pc := 9) dX7_byteAt_9 rfl hq (fun hc10 hq => ?_) (fun hc10 hq => ?_)
        · refine fr_aload_n (pc := 12) dX7_byteAt_12 rfl rfl ?_
          refine fr_getr (a := 70) (pc := 13) dX7_byteAt_13 rfl pf_7_9 s0_70 rfl rf_70_0 ?_
          refine fr_iload_n (pc := 16) dX7_byteAt_16 rfl rfl ?_
          obtain ⟨hb11, hq⟩ := hq
          refine fr_baload (a := 1) (v := gI M 1 (w32 ((gI M 70 2) + 1))) (pc := 17) dX7_byteAt_17 rfl s0_1 hb11 (Or.inl rfl) ((gI_ne _ _ _ _ (by decide)).trans (gI_ne _ _ _ _ (by decide))) ?_
          refine fr_sipush (pc := 18) dX7_byteAt_18 (by decide) ?_
          refine fr_iand (z := pm_iand (gI M 1 (w32 ((gI M 70 2) + 1))) 255) (pc := 21) dX7_byteAt_21 rfl ?_
          refine fr_goto (tg := 26) (pc := 22) dX7_byteAt_22 rfl ?_
          refine fr_iret (pc := 26) dX7_byteAt_26 (Or.inl rfl) ?_
          refine fr_bipush (pc := 151) dX7_advance_151 (by decide) ?_
          refine fr_icm_ne (tg := 163) (pc := 153) dX7_advance_153 rfl hq (fun hc12 hq => ?_) (fun hc12 hq => ?_)
          · refine fr_iload_n (pc := 156) dX7_advance_156 rfl rfl ?_
            refine fr_inSI (as := [(0, 0)]) (rest := [(0, 0), (2, 70)]) (ls' := [(0, 0)]) (c1 := 0) (c2 := 0) (pc := 157) dX7_advance_157 pl_7_56 rfl ⟨Nat.le_of_ble_eq_true rfl, Nat.le_of_ble_eq_true rfl⟩ rfl rfl  (by omega) rfl rfl (pm_zc _) (hq sc _ (by omega)) (fun r14 M13 hq => ?_)
            refine fr_goto (tg := 164) (pc := 160) dX7_advance_160 rfl ?_
            refine fr_iload_n (pc := 164) dX7_advance_164 rfl rfl ?_
            refine fr_inSI (as := [(0, 0)]) (rest := [(0, r14), (0, 0), (2, 70)]) (ls' := [(0, 0)]) (c1 := 0) (c2 := 0) (pc := 165) dX7_advance_165 pl_7_59 rfl ⟨Nat.le_of_ble_eq_true rfl, Nat.le_of_ble_eq_true rfl⟩ rfl rfl  (by omega) rfl rfl (pm_zc _) (hq sc _ (by omega)) (fun r16 M15 hq => ?_)
            refine fr_inVV (a := 70) (as := [(0, 0), (0, r14), (0, r16)]) (rest := []) (ls' := [(2, 70), (0, 0), (0, r14), (0, r16), (9, 0)]) (c1 := 0) (c2 := 0) (pc := 168) dX7_advance_168 pl_7_62 rfl ⟨Nat.le_of_ble_eq_true rfl, Nat.le_of_ble_eq_true rfl⟩ rfl rfl rfl s0_70 (Nat.le_of_ble_eq_true rfl) (by omega) rfl rfl (pm_zc _) (hq sc _ (by omega)) (fun M17 hq => ?_)
            refine fr_aload_n (pc := 171) dX7_advance_171 rfl rfl ?_
            refine fr_getf (a := 70) (i := 4) (v := gI M17 70 4) (t := 0) (pc := 172) dX7_advance_172 rfl pf_7_40 rfl s0_70 rfl rfl ?_
            refine fr_iconst (pc := 175) dX7_advance_175 (by decide) ?_
            refine fr_icm_ne (tg := 184) (pc := 176) dX7_advance_176 rfl hq (fun hc19 hq => ?_) (fun hc19 hq => ?_)
            · refine fr_aload_n (pc := 179) dX7_advance_179 rfl rfl ?_
              refine fr_iconst (pc := 180) dX7_advance_180 (by decide) ?_
              refine fr_inVV (a := 70) (as := [(0, 1)]) (rest := []) (ls' := [(2, 70), (0, 1)]) (c1 := 0) (c2 := 0) (pc := 181) dX7_advance_181 pl_7_66 rfl ⟨Nat.le_of_ble_eq_true rfl, Nat.le_of_ble_eq_true rfl⟩ rfl rfl rfl s0_70 (Nat.le_of_ble_eq_true rfl) (by omega) rfl rfl (pm_zc _) ?_ (fun M' h => h)
              refine fr_aload_n (pc := 0) dX7_refuse_0 rfl rfl ?_
              refine fr_getf (a := 70) (i := 6) (v := gI M17 70 6) (t := 0) (pc := 1) dX7_refuse_1 rfl pf_7_31 rfl s0_70 rfl rfl ?_
              refine fr_ifc_ne (tg := 25) (pc := 4) dX7_refuse_4 rfl hq (fun hc20 hq => ?_) (fun hc20 hq => ?_)
              · refine fr_aload_n (pc := 7) dX7_refuse_7 rfl rfl ?_
                refine fr_bipush (pc := 8) dX7_refuse_8 (by decide) ?_
                refine fr_aload_n (pc := 10) dX7_refuse_10 rfl rfl ?_
                refine fr_getf (a := 70) (i := 3) (v := gI M17 70 3) (t := 0) (pc := 11) dX7_refuse_11 rfl pf_7_37 rfl s0_70 rfl rfl ?_
                refine fr_imul (z := w32 (8 * (gI M17 70 3))) (pc := 14) dX7_refuse_14 rfl ?_
                refine fr_iload_n (pc := 15) dX7_refuse_15 rfl rfl ?_
                refine fr_iadd (z := w32 ((w32 (8 * (gI M17 70 3))) + 1)) (pc := 16) dX7_refuse_16 rfl ?_
                refine fr_put (a := 70) (i := 6) (pc := 17) dX7_refuse_17 rfl pf_7_31 rfl s0_70 rfl rfl nf_70_6 rfl ?_
                refine fr_aload_n (pc := 20) dX7_refuse_20 rfl rfl ?_
                refine fr_iconst (pc := 21) dX7_refuse_21 (by decide) ?_
                refine fr_put (a := 70) (i := 4) (pc := 22) dX7_refuse_22 rfl pf_7_40 rfl s0_70 rfl rfl nf_70_4 rfl ?_
                refine fr_vret (pc := 25) dX7_refuse_25 rfl ?_
                exact fr_vret (pc := 184) dX7_advance_184 rfl hq
              · refine fr_vret (pc := 25) dX7_refuse_25 rfl ?_
                exact fr_vret (pc := 184) dX7_advance_184 rfl hq
            · exact fr_vret (pc := 184) dX7_advance_184 rfl hq
          · refine fr_iconst (pc := 163) dX7_advance_163 (by decide) ?_
            refine fr_iload_n (pc := 164) dX7_advance_164 rfl rfl ?_
            refine fr_inSI (as := [(0, 0)]) (rest := [(0, (-1)), (0, 0), (2, 70)]) (ls' := [(0, 0)]) (c1 := 0) (c2 := 0) (pc := 165) dX7_advance_165 pl_7_59 rfl ⟨Nat.le_of_ble_eq_true rfl, Nat.le_of_ble_eq_true rfl⟩ rfl rfl  (by omega) rfl rfl (pm_zc _) (hq sc _ (by omega)) (fun r22 M21 hq => ?_)
            refine fr_inVV (a := 70) (as := [(0, 0), (0, (-1)), (0, r22)]) (rest := []) (ls' := [(2, 70), (0, 0), (0, (-1)), (0, r22), (9, 0)]) (c1 := 0) (c2 := 0) (pc := 168) dX7_advance_168 pl_7_62 rfl ⟨Nat.le_of_ble_eq_true rfl, Nat.le_of_ble_eq_true rfl⟩ rfl rfl rfl s0_70 (Nat.le_of_ble_eq_true rfl) (by omega) rfl rfl (pm_zc _) (hq sc _ (by omega)) (fun M23 hq => ?_)
            refine fr_aload_n (pc := 171) dX7_advance_171 rfl rfl ?_
            refine fr_getf (a := 70) (i := 4) (v := gI M23 70 4) (t := 0) (pc := 172) dX7_advance_172 rfl pf_7_40 rfl s0_70 rfl rfl ?_
            refine fr_iconst (pc := 175) dX7_advance_175 (by decide) ?_
            refine fr_icm_ne (tg := 184) (pc := 176) dX7_advance_176 rfl hq (fun hc25 hq => ?_) (fun hc25 hq => ?_)
            · refine fr_aload_n (pc := 179) dX7_advance_179 rfl rfl ?_
              refine fr_iconst (pc := 180) dX7_advance_180 (by decide) ?_
              refine fr_inVV (a := 70) (as := [(0, 1)]) (rest := []) (ls' := [(2, 70), (0, 1)]) (c1 := 0) (c2 := 0) (pc := 181) dX7_advance_181 pl_7_66 rfl ⟨Nat.le_of_ble_eq_true rfl, Nat.le_of_ble_eq_true rfl⟩ rfl rfl rfl s0_70 (Nat.le_of_ble_eq_true rfl) (by omega) rfl rfl (pm_zc _) ?_ (fun M' h => h)
              refine fr_aload_n (pc := 0) dX7_refuse_0 rfl rfl ?_
              refine fr_getf (a := 70) (i := 6) (v := gI M23 70 6) (t := 0) (pc := 1) dX7_refuse_1 rfl pf_7_31 rfl s0_70 rfl rfl ?_
              refine fr_ifc_ne (tg := 25) (pc := 4) dX7_refuse_4 rfl hq (fun hc26 hq => ?_) (fun hc26 hq => ?_)
              · refine fr_aload_n (pc := 7) dX7_refuse_7 rfl rfl ?_
                refine fr_bipush (pc := 8) dX7_refuse_8 (by decide) ?_
                refine fr_aload_n (pc := 10) dX7_refuse_10 rfl rfl ?_
                refine fr_getf (a := 70) (i := 3) (v := gI M23 70 3) (t := 0) (pc := 11) dX7_refuse_11 rfl pf_7_37 rfl s0_70 rfl rfl ?_
                refine fr_imul (z := w32 (8 * (gI M23 70 3))) (pc := 14) dX7_refuse_14 rfl ?_
                refine fr_iload_n (pc := 15) dX7_refuse_15 rfl rfl ?_
                refine fr_iadd (z := w32 ((w32 (8 * (gI M23 70 3))) + 1)) (pc := 16) dX7_refuse_16 rfl ?_
                refine fr_put (a := 70) (i := 6) (pc := 17) dX7_refuse_17 rfl pf_7_31 rfl s0_70 rfl rfl nf_70_6 rfl ?_
                refine fr_aload_n (pc := 20) dX7_refuse_20 rfl rfl ?_
                refine fr_iconst (pc := 21) dX7_refuse_21 (by decide) ?_
                refine fr_put (a := 70) (i := 4) (pc := 22) dX7_refuse_22 rfl pf_7_40 rfl s0_70 rfl rfl nf_70_4 rfl ?_
                refine fr_vret (pc := 25) dX7_refuse_25 rfl ?_
                exact fr_vret (pc := 184) dX7_advance_184 rfl hq
              · refine fr_vret (pc := 25) dX7_refuse_25 rfl ?_
                exact fr_vret (pc := 184) dX7_advance_184 rfl hq
            · exact fr_vret (pc := 184) dX7_advance_184 rfl hq
        · refine fr_iconst (pc := 25) dX7_byteAt_25 (by decide) ?_
          refine fr_iret (pc := 26) dX7_byteAt_26 (Or.inl rfl) ?_
          refine fr_bipush (pc := 151) dX7_advance_151 (by decide) ?_
          refine fr_icmT (tg := 163) (pc := 153) dX7_advance_153 rfl rfl ?_
          refine fr_iconst (pc := 163) dX7_advance_163 (by decide) ?_
          refine fr_iload_n (pc := 164) dX7_advance_164 rfl rfl ?_
          refine fr_inSI (as := [(0, 0)]) (rest := [(0, (-1)), (0, 0), (2, 70)]) (ls' := [(0, 0)]) (c1 := 0) (c2 := 0) (pc := 165) dX7_advance_165 pl_7_59 rfl ⟨Nat.le_of_ble_eq_true rfl, Nat.le_of_ble_eq_true rfl⟩ rfl rfl  (by omega) rfl rfl (pm_zc _) (hq sc _ (by omega)) (fun r28 M27 hq => ?_)
          refine fr_inVV (a := 70) (as := [(0, 0), (0, (-1)), (0, r28)]) (rest := []) (ls' := [(2, 70), (0, 0), (0, (-1)), (0, r28), (9, 0)]) (c1 := 0) (c2 := 0) (pc := 168) dX7_advance_168 pl_7_62 rfl ⟨Nat.le_of_ble_eq_true rfl, Nat.le_of_ble_eq_true rfl⟩ rfl rfl rfl s0_70 (Nat.le_of_ble_eq_true rfl) (by omega) rfl rfl (pm_zc _) (hq sc _ (by omega)) (fun M29 hq => ?_)
          refine fr_aload_n (pc := 171) dX7_advance_171 rfl rfl ?_
          refine fr_getf (a := 70) (i := 4) (v := gI M29 70 4) (t := 0) (pc := 172) dX7_advance_172 rfl pf_7_40 rfl s0_70 rfl rfl ?_
          refine fr_iconst (pc := 175) dX7_advance_175 (by decide) ?_
          refine fr_icm_ne (tg := 184) (pc := 176) dX7_advance_176 rfl hq (fun hc31 hq => ?_) (fun hc31 hq => ?_)
          · refine fr_aload_n (pc := 179) dX7_advance_179 rfl rfl ?_
            refine fr_iconst (pc := 180) dX7_advance_180 (by decide) ?_
            refine fr_inVV (a := 70) (as := [(0, 1)]) (rest := []) (ls' := [(2, 70), (0, 1)]) (c1 := 0) (c2 := 0) (pc := 181) dX7_advance_181 pl_7_66 rfl ⟨Nat.le_of_ble_eq_true rfl, Nat.le_of_ble_eq_true rfl⟩ rfl rfl rfl s0_70 (Nat.le_of_ble_eq_true rfl) (by omega) rfl rfl (pm_zc _) ?_ (fun M' h => h)
            refine fr_aload_n (pc := 0) dX7_refuse_0 rfl rfl ?_
            refine fr_getf (a := 70) (i := 6) (v := gI M29 70 6) (t := 0) (pc := 1) dX7_refuse_1 rfl pf_7_31 rfl s0_70 rfl rfl ?_
            refine fr_ifc_ne (tg := 25) (pc := 4) dX7_refuse_4 rfl hq (fun hc32 hq => ?_) (fun hc32 hq => ?_)
            · refine fr_aload_n (pc := 7) dX7_refuse_7 rfl rfl ?_
              refine fr_bipush (pc := 8) dX7_refuse_8 (by decide) ?_
              refine fr_aload_n (pc := 10) dX7_refuse_10 rfl rfl ?_
              refine fr_getf (a := 70) (i := 3) (v := gI M29 70 3) (t := 0) (pc := 11) dX7_refuse_11 rfl pf_7_37 rfl s0_70 rfl rfl ?_
              refine fr_imul (z := w32 (8 * (gI M29 70 3))) (pc := 14) dX7_refuse_14 rfl ?_
              refine fr_iload_n (pc := 15) dX7_refuse_15 rfl rfl ?_
              refine fr_iadd (z := w32 ((w32 (8 * (gI M29 70 3))) + 1)) (pc := 16) dX7_refuse_16 rfl ?_
              refine fr_put (a := 70) (i := 6) (pc := 17) dX7_refuse_17 rfl pf_7_31 rfl s0_70 rfl rfl nf_70_6 rfl ?_
              refine fr_aload_n (pc := 20) dX7_refuse_20 rfl rfl ?_
              refine fr_iconst (pc := 21) dX7_refuse_21 (by decide) ?_
              refine fr_put (a := 70) (i := 4) (pc := 22) dX7_refuse_22 rfl pf_7_40 rfl s0_70 rfl rfl nf_70_4 rfl ?_
              refine fr_vret (pc := 25) dX7_refuse_25 rfl ?_
              exact fr_vret (pc := 184) dX7_advance_184 rfl hq
            · refine fr_vret (pc := 25) dX7_refuse_25 rfl ?_
              exact fr_vret (pc := 184) dX7_advance_184 rfl hq
          · exact fr_vret (pc := 184) dX7_advance_184 rfl hq
    · refine fr_aload_n (pc := 93) dX7_advance_93 rfl rfl ?_
      refine fr_iconst (pc := 94) dX7_advance_94 (by decide) ?_
      refine fr_put (a := 70) (i := 4) (pc := 95) dX7_advance_95 rfl pf_7_40 rfl s0_70 rfl rfl nf_70_4 rfl ?_
      refine fr_goto (tg := 171) (pc := 98) dX7_advance_98 rfl ?_
      refine fr_aload_n (pc := 171) dX7_advance_171 rfl rfl ?_
      refine fr_getf (a := 70) (i := 4) (v := 0) (t := 0) (pc := 172) dX7_advance_172 rfl pf_7_40 rfl s0_70 rfl (gI_eq _ _ _ _) ?_
      refine fr_iconst (pc := 175) dX7_advance_175 (by decide) ?_
      refine fr_icmT (tg := 184) (pc := 176) dX7_advance_176 rfl rfl ?_
      exact fr_vret (pc := 184) dX7_advance_184 rfl hq
  · refine fr_iload_n (pc := 4) dX7_byteAt_4 rfl rfl ?_
    refine fr_aload_n (pc := 5) dX7_byteAt_5 rfl rfl ?_
    refine fr_getf (a := 70) (i := 1) (v := gI M 70 1) (t := 0) (pc := 6) dX7_byteAt_6 rfl pf_7_24 rfl s0_70 rfl ((gI_nf _ _ (by decide)).trans (gI_nf _ _ (by decide))) ?_
    refine fr_icm_ge (tg := 25) (pc := 9) dX7_byteAt_9 rfl hq (fun hc33 hq => ?_) (fun hc33 hq => ?_)
    · refine fr_aload_n (pc := 12) dX7_byteAt_12 rfl rfl ?_
      refine fr_getr (a := 70) (pc := 13) dX7_byteAt_13 rfl pf_7_9 s0_70 rfl rf_70_0 ?_
      refine fr_iload_n (pc := 16) dX7_byteAt_16 rfl rfl ?_
      obtain ⟨hb34, hq⟩ := hq
      refine fr_baload (a := 1) (v := gI M 1 (gI M 70 2)) (pc := 17) dX7_byteAt_17 rfl s0_1 hb34 (Or.inl rfl) ((gI_ne _ _ _ _ (by decide)).trans (gI_ne _ _ _ _ (by decide))) ?_
      refine fr_sipush (pc := 18) dX7_byteAt_18 (by decide) ?_
      refine fr_iand (z := pm_iand (gI M 1 (gI M 70 2)) 255) (pc := 21) dX7_byteAt_21 rfl ?_
      refine fr_goto (tg := 26) (pc := 22) dX7_byteAt_22 rfl ?_
      refine fr_iret (pc := 26) dX7_byteAt_26 (Or.inl rfl) ?_
      refine fr_istore_n (ls2 := [(2, 70), (0, pm_iand (gI M 1 (gI M 70 2)) 255)]) (pc := 81) dX7_advance_81 rfl (Nat.le_of_ble_eq_true rfl) rfl ?_
      refine fr_aload_n (pc := 82) dX7_advance_82 rfl rfl ?_
      refine fr_getf (a := 70) (i := 2) (v := gI M 70 2) (t := 0) (pc := 83) dX7_advance_83 rfl pf_7_28 rfl s0_70 rfl ((gI_nf _ _ (by decide)).trans (gI_nf _ _ (by decide))) ?_
      refine fr_aload_n (pc := 86) dX7_advance_86 rfl rfl ?_
      refine fr_getf (a := 70) (i := 1) (v := gI M 70 1) (t := 0) (pc := 87) dX7_advance_87 rfl pf_7_24 rfl s0_70 rfl ((gI_nf _ _ (by decide)).trans (gI_nf _ _ (by decide))) ?_
      refine fr_icmT (tg := 101) (pc := 90) dX7_advance_90 (decide_eq_true hc33) rfl ?_
      refine fr_iload_n (pc := 101) dX7_advance_101 rfl rfl ?_
      refine fr_bipush (pc := 102) dX7_advance_102 (by decide) ?_
      refine fr_icm_lt (tg := 120) (pc := 104) dX7_advance_104 rfl hq (fun hc35 hq => ?_) (fun hc35 hq => ?_)
      · refine fr_iload_n (pc := 120) dX7_advance_120 rfl rfl ?_
        refine fr_bipush (pc := 121) dX7_advance_121 (by decide) ?_
        refine fr_icm_lt (tg := 139) (pc := 123) dX7_advance_123 rfl hq (fun hc36 hq => ?_) (fun hc36 hq => ?_)
        · refine fr_aload_n (pc := 139) dX7_advance_139 rfl rfl ?_
          refine fr_iload_n (pc := 140) dX7_advance_140 rfl rfl ?_
          refine fr_aload_n (pc := 141) dX7_advance_141 rfl rfl ?_
          refine fr_aload_n (pc := 142) dX7_advance_142 rfl rfl ?_
          refine fr_getf (a := 70) (i := 2) (v := gI M 70 2) (t := 0) (pc := 143) dX7_advance_143 rfl pf_7_28 rfl s0_70 rfl ((gI_nf _ _ (by decide)).trans (gI_nf _ _ (by decide))) ?_
          refine fr_iconst (pc := 146) dX7_advance_146 (by decide) ?_
          refine fr_iadd (z := w32 ((gI M 70 2) + 1)) (pc := 147) dX7_advance_147 rfl ?_
          refine fr_inVI (a := 70) (as := [(0, w32 ((gI M 70 2) + 1))]) (rest := [(0, pm_iand (gI M 1 (gI M 70 2)) 255), (2, 70)]) (ls' := [(2, 70), (0, w32 ((gI M 70 2) + 1))]) (c1 := 0) (c2 := 0) (pc := 148) dX7_advance_148 pl_7_46 rfl ⟨Nat.le_of_ble_eq_true rfl, Nat.le_of_ble_eq_true rfl⟩ rfl rfl rfl s0_70 (Nat.le_of_ble_eq_true rfl) (by omega) rfl rfl (pm_zc _) ?_ (fun y M' h => h)
          refine fr_iload_n (pc := 0) dX7_byteAt_0 rfl rfl ?_
          refine fr_ifc_lt (tg := 25) (pc := 1) dX7_byteAt_1 rfl hq (fun hc37 hq => ?_) (fun hc37 hq => ?_)
          · refine fr_iconst (pc := 25) dX7_byteAt_25 (by decide) ?_
            refine fr_iret (pc := 26) dX7_byteAt_26 (Or.inl rfl) ?_
            refine fr_bipush (pc := 151) dX7_advance_151 (by decide) ?_
            refine fr_icmT (tg := 163) (pc := 153) dX7_advance_153 rfl rfl ?_
            refine fr_iconst (pc := 163) dX7_advance_163 (by decide) ?_
            refine fr_iload_n (pc := 164) dX7_advance_164 rfl rfl ?_
            refine fr_inSI (as := [(0, pm_iand (gI M 1 (gI M 70 2)) 255)]) (rest := [(0, (-1)), (0, pm_iand (gI M 1 (gI M 70 2)) 255), (2, 70)]) (ls' := [(0, pm_iand (gI M 1 (gI M 70 2)) 255)]) (c1 := 0) (c2 := 0) (pc := 165) dX7_advance_165 pl_7_59 rfl ⟨Nat.le_of_ble_eq_true rfl, Nat.le_of_ble_eq_true rfl⟩ rfl rfl  (by omega) rfl rfl (pm_zc _) (hq sc _ (by omega)) (fun r39 M38 hq => ?_)
            refine fr_inVV (a := 70) (as := [(0, pm_iand (gI M 1 (gI M 70 2)) 255), (0, (-1)), (0, r39)]) (rest := []) (ls' := [(2, 70), (0, pm_iand (gI M 1 (gI M 70 2)) 255), (0, (-1)), (0, r39), (9, 0)]) (c1 := 0) (c2 := 0) (pc := 168) dX7_advance_168 pl_7_62 rfl ⟨Nat.le_of_ble_eq_true rfl, Nat.le_of_ble_eq_true rfl⟩ rfl rfl rfl s0_70 (Nat.le_of_ble_eq_true rfl) (by omega) rfl rfl (pm_zc _) (hq sc _ (by omega)) (fun M40 hq => ?_)
            refine fr_aload_n (pc := 171) dX7_advance_171 rfl rfl ?_
            refine fr_getf (a := 70) (i := 4) (v := gI M40 70 4) (t := 0) (pc := 172) dX7_advance_172 rfl pf_7_40 rfl s0_70 rfl rfl ?_
            refine fr_iconst (pc := 175) dX7_advance_175 (by decide) ?_
            refine fr_icm_ne (tg := 184) (pc := 176) dX7_advance_176 rfl hq (fun hc42 hq => ?_) (fun hc42 hq => ?_)
            · refine fr_aload_n (pc := 179) dX7_advance_179 rfl rfl ?_
              refine fr_iconst (pc := 180) dX7_advance_180 (by decide) ?_
              refine fr_inVV (a := 70) (as := [(0, 1)]) (rest := []) (ls' := [(2, 70), (0, 1)]) (c1 := 0) (c2 := 0) (pc := 181) dX7_advance_181 pl_7_66 rfl ⟨Nat.le_of_ble_eq_true rfl, Nat.le_of_ble_eq_true rfl⟩ rfl rfl rfl s0_70 (Nat.le_of_ble_eq_true rfl) (by omega) rfl rfl (pm_zc _) ?_ (fun M' h => h)
              refine fr_aload_n (pc := 0) dX7_refuse_0 rfl rfl ?_
              refine fr_getf (a := 70) (i := 6) (v := gI M40 70 6) (t := 0) (pc := 1) dX7_refuse_1 rfl pf_7_31 rfl s0_70 rfl rfl ?_
              refine fr_ifc_ne (tg := 25) (pc := 4) dX7_refuse_4 rfl hq (fun hc43 hq => ?_) (fun hc43 hq => ?_)
              · refine fr_aload_n (pc := 7) dX7_refuse_7 rfl rfl ?_
                refine fr_bipush (pc := 8) dX7_refuse_8 (by decide) ?_
                refine fr_aload_n (pc := 10) dX7_refuse_10 rfl rfl ?_
                refine fr_getf (a := 70) (i := 3) (v := gI M40 70 3) (t := 0) (pc := 11) dX7_refuse_11 rfl pf_7_37 rfl s0_70 rfl rfl ?_
                refine fr_imul (z := w32 (8 * (gI M40 70 3))) (pc := 14) dX7_refuse_14 rfl ?_
                refine fr_iload_n (pc := 15) dX7_refuse_15 rfl rfl ?_
                refine fr_iadd (z := w32 ((w32 (8 * (gI M40 70 3))) + 1)) (pc := 16) dX7_refuse_16 rfl ?_
                refine fr_put (a := 70) (i := 6) (pc := 17) dX7_refuse_17 rfl pf_7_31 rfl s0_70 rfl rfl nf_70_6 rfl ?_
                refine fr_aload_n (pc := 20) dX7_refuse_20 rfl rfl ?_
                refine fr_iconst (pc := 21) dX7_refuse_21 (by decide) ?_
                refine fr_put (a := 70) (i := 4) (pc := 22) dX7_refuse_22 rfl pf_7_40 rfl s0_70 rfl rfl nf_70_4 rfl ?_
                refine fr_vret (pc := 25) dX7_refuse_25 rfl ?_
                exact fr_vret (pc := 184) dX7_advance_184 rfl hq
              · refine fr_vret (pc := 25) dX7_refuse_25 rfl ?_
                exact fr_vret (pc := 184) dX7_advance_184 rfl hq
            · exact fr_vret (pc := 184) dX7_advance_184 rfl hq
          · refine fr_iload_n (pc := 4) dX7_byteAt_4 rfl rfl ?_
            refine fr_aload_n (pc := 5) dX7_byteAt_5 rfl rfl ?_
            refine fr_getf (a := 70) (i := 1) (v := gI M 70 1) (t := 0) (pc := 6) dX7_byteAt_6 rfl pf_7_24 rfl s0_70 rfl ((gI_nf _ _ (by decide)).trans (gI_nf _ _ (by decide))) ?_
            refine fr_icm_ge (tg := 25) (pc := 9) dX7_byteAt_9 rfl hq (fun hc44 hq => ?_) (fun hc44 hq => ?_)
            · refine fr_aload_n (pc := 12) dX7_byteAt_12 rfl rfl ?_
              refine fr_getr (a := 70) (pc := 13) dX7_byteAt_13 rfl pf_7_9 s0_70 rfl rf_70_0 ?_
              refine fr_iload_n (pc := 16) dX7_byteAt_16 rfl rfl ?_
              obtain ⟨hb45, hq⟩ := hq
              refine fr_baload (a := 1) (v := gI M 1 (w32 ((gI M 70 2) + 1))) (pc := 17) dX7_byteAt_17 rfl s0_1 hb45 (Or.inl rfl) ((gI_ne _ _ _ _ (by decide)).trans (gI_ne _ _ _ _ (by decide))) ?_
              refine fr_sipush (pc := 18) dX7_byteAt_18 (by decide) ?_
              refine fr_iand (z := pm_iand (gI M 1 (w32 ((gI M 70 2) + 1))) 255) (pc := 21) dX7_byteAt_21 rfl ?_
              refine fr_goto (tg := 26) (pc := 22) dX7_byteAt_22 rfl ?_
              refine fr_iret (pc := 26) dX7_byteAt_26 (Or.inl rfl) ?_
              refine fr_bipush (pc := 151) dX7_advance_151 (by decide) ?_
              refine fr_icm_ne (tg := 163) (pc := 153) dX7_advance_153 rfl hq (fun hc46 hq => ?_) (fun hc46 hq => ?_)
              · refine fr_iload_n (pc := 156) dX7_advance_156 rfl rfl ?_
                refine fr_inSI (as := [(0, pm_iand (gI M 1 (gI M 70 2)) 255)]) (rest := [(0, pm_iand (gI M 1 (gI M 70 2)) 255), (2, 70)]) (ls' := [(0, pm_iand (gI M 1 (gI M 70 2)) 255)]) (c1 := 0) (c2 := 0) (pc := 157) dX7_advance_157 pl_7_56 rfl ⟨Nat.le_of_ble_eq_true rfl, Nat.le_of_ble_eq_true rfl⟩ rfl rfl  (by omega) rfl rfl (pm_zc _) (hq sc _ (by omega)) (fun r48 M47 hq => ?_)
                refine fr_goto (tg := 164) (pc := 160) dX7_advance_160 rfl ?_
                refine fr_iload_n (pc := 164) dX7_advance_164 rfl rfl ?_
                refine fr_inSI (as := [(0, pm_iand (gI M 1 (gI M 70 2)) 255)]) (rest := [(0, r48), (0, pm_iand (gI M 1 (gI M 70 2)) 255), (2, 70)]) (ls' := [(0, pm_iand (gI M 1 (gI M 70 2)) 255)]) (c1 := 0) (c2 := 0) (pc := 165) dX7_advance_165 pl_7_59 rfl ⟨Nat.le_of_ble_eq_true rfl, Nat.le_of_ble_eq_true rfl⟩ rfl rfl  (by omega) rfl rfl (pm_zc _) (hq sc _ (by omega)) (fun r50 M49 hq => ?_)
                refine fr_inVV (a := 70) (as := [(0, pm_iand (gI M 1 (gI M 70 2)) 255), (0, r48), (0, r50)]) (rest := []) (ls' := [(2, 70), (0, pm_iand (gI M 1 (gI M 70 2)) 255), (0, r48), (0, r50), (9, 0)]) (c1 := 0) (c2 := 0) (pc := 168) dX7_advance_168 pl_7_62 rfl ⟨Nat.le_of_ble_eq_true rfl, Nat.le_of_ble_eq_true rfl⟩ rfl rfl rfl s0_70 (Nat.le_of_ble_eq_true rfl) (by omega) rfl rfl (pm_zc _) (hq sc _ (by omega)) (fun M51 hq => ?_)
                refine fr_aload_n (pc := 171) dX7_advance_171 rfl rfl ?_
                refine fr_getf (a := 70) (i := 4) (v := gI M51 70 4) (t := 0) (pc := 172) dX7_advance_172 rfl pf_7_40 rfl s0_70 rfl rfl ?_
                refine fr_iconst (pc := 175) dX7_advance_175 (by decide) ?_
                refine fr_icm_ne (tg := 184) (pc := 176) dX7_advance_176 rfl hq (fun hc53 hq => ?_) (fun hc53 hq => ?_)
                · refine fr_aload_n (pc := 179) dX7_advance_179 rfl rfl ?_
                  refine fr_iconst (pc := 180) dX7_advance_180 (by decide) ?_
                  refine fr_inVV (a := 70) (as := [(0, 1)]) (rest := []) (ls' := [(2, 70), (0, 1)]) (c1 := 0) (c2 := 0) (pc := 181) dX7_advance_181 pl_7_66 rfl ⟨Nat.le_of_ble_eq_true rfl, Nat.le_of_ble_eq_true rfl⟩ rfl rfl rfl s0_70 (Nat.le_of_ble_eq_true rfl) (by omega) rfl rfl (pm_zc _) ?_ (fun M' h => h)
                  refine fr_aload_n (pc := 0) dX7_refuse_0 rfl rfl ?_
                  refine fr_getf (a := 70) (i := 6) (v := gI M51 70 6) (t := 0) (pc := 1) dX7_refuse_1 rfl pf_7_31 rfl s0_70 rfl rfl ?_
                  refine fr_ifc_ne (tg := 25) (pc := 4) dX7_refuse_4 rfl hq (fun hc54 hq => ?_) (fun hc54 hq => ?_)
                  · refine fr_aload_n (pc := 7) dX7_refuse_7 rfl rfl ?_
                    refine fr_bipush (pc := 8) dX7_refuse_8 (by decide) ?_
                    refine fr_aload_n (pc := 10) dX7_refuse_10 rfl rfl ?_
                    refine fr_getf (a := 70) (i := 3) (v := gI M51 70 3) (t := 0) (pc := 11) dX7_refuse_11 rfl pf_7_37 rfl s0_70 rfl rfl ?_
                    refine fr_imul (z := w32 (8 * (gI M51 70 3))) (pc := 14) dX7_refuse_14 rfl ?_
                    refine fr_iload_n (pc := 15) dX7_refuse_15 rfl rfl ?_
                    refine fr_iadd (z := w32 ((w32 (8 * (gI M51 70 3))) + 1)) (pc := 16) dX7_refuse_16 rfl ?_
                    refine fr_put (a := 70) (i := 6) (pc := 17) dX7_refuse_17 rfl pf_7_31 rfl s0_70 rfl rfl nf_70_6 rfl ?_
                    refine fr_aload_n (pc := 20) dX7_refuse_20 rfl rfl ?_
                    refine fr_iconst (pc := 21) dX7_refuse_21 (by decide) ?_
                    refine fr_put (a := 70) (i := 4) (pc := 22) dX7_refuse_22 rfl pf_7_40 rfl s0_70 rfl rfl nf_70_4 rfl ?_
                    refine fr_vret (pc := 25) dX7_refuse_25 rfl ?_
                    exact fr_vret (pc := 184) dX7_advance_184 rfl hq
                  · refine fr_vret (pc := 25) dX7_refuse_25 rfl ?_
                    exact fr_vret (pc := 184) dX7_advance_184 rfl hq
                · exact fr_vret (pc := 184) dX7_advance_184 rfl hq
              · refine fr_iconst (pc := 163) dX7_advance_163 (by decide) ?_
                refine fr_iload_n (pc := 164) dX7_advance_164 rfl rfl ?_
                refine fr_inSI (as := [(0, pm_iand (gI M 1 (gI M 70 2)) 255)]) (rest := [(0, (-1)), (0, pm_iand (gI M 1 (gI M 70 2)) 255), (2, 70)]) (ls' := [(0, pm_iand (gI M 1 (gI M 70 2)) 255)]) (c1 := 0) (c2 := 0) (pc := 165) dX7_advance_165 pl_7_59 rfl ⟨Nat.le_of_ble_eq_true rfl, Nat.le_of_ble_eq_true rfl⟩ rfl rfl  (by omega) rfl rfl (pm_zc _) (hq sc _ (by omega)) (fun r56 M55 hq => ?_)
                refine fr_inVV (a := 70) (as := [(0, pm_iand (gI M 1 (gI M 70 2)) 255), (0, (-1)), (0, r56)]) (rest := []) (ls' := [(2, 70), (0, pm_iand (gI M 1 (gI M 70 2)) 255), (0, (-1)), (0, r56), (9, 0)]) (c1 := 0) (c2 := 0) (pc := 168) dX7_advance_168 pl_7_62 rfl ⟨Nat.le_of_ble_eq_true rfl, Nat.le_of_ble_eq_true rfl⟩ rfl rfl rfl s0_70 (Nat.le_of_ble_eq_true rfl) (by omega) rfl rfl (pm_zc _) (hq sc _ (by omega)) (fun M57 hq => ?_)
                refine fr_aload_n (pc := 171) dX7_advance_171 rfl rfl ?_
                refine fr_getf (a := 70) (i := 4) (v := gI M57 70 4) (t := 0) (pc := 172) dX7_advance_172 rfl pf_7_40 rfl s0_70 rfl rfl ?_
                refine fr_iconst (pc := 175) dX7_advance_175 (by decide) ?_
                refine fr_icm_ne (tg := 184) (pc := 176) dX7_advance_176 rfl hq (fun hc59 hq => ?_) (fun hc59 hq => ?_)
                · refine fr_aload_n (pc := 179) dX7_advance_179 rfl rfl ?_
                  refine fr_iconst (pc := 180) dX7_advance_180 (by decide) ?_
                  refine fr_inVV (a := 70) (as := [(0, 1)]) (rest := []) (ls' := [(2, 70), (0, 1)]) (c1 := 0) (c2 := 0) (pc := 181) dX7_advance_181 pl_7_66 rfl ⟨Nat.le_of_ble_eq_true rfl, Nat.le_of_ble_eq_true rfl⟩ rfl rfl rfl s0_70 (Nat.le_of_ble_eq_true rfl) (by omega) rfl rfl (pm_zc _) ?_ (fun M' h => h)
                  refine fr_aload_n (pc := 0) dX7_refuse_0 rfl rfl ?_
                  refine fr_getf (a := 70) (i := 6) (v := gI M57 70 6) (t := 0) (pc := 1) dX7_refuse_1 rfl pf_7_31 rfl s0_70 rfl rfl ?_
                  refine fr_ifc_ne (tg := 25) (pc := 4) dX7_refuse_4 rfl hq (fun hc60 hq => ?_) (fun hc60 hq => ?_)
                  · refine fr_aload_n (pc := 7) dX7_refuse_7 rfl rfl ?_
                    refine fr_bipush (pc := 8) dX7_refuse_8 (by decide) ?_
                    refine fr_aload_n (pc := 10) dX7_refuse_10 rfl rfl ?_
                    refine fr_getf (a := 70) (i := 3) (v := gI M57 70 3) (t := 0) (pc := 11) dX7_refuse_11 rfl pf_7_37 rfl s0_70 rfl rfl ?_
                    refine fr_imul (z := w32 (8 * (gI M57 70 3))) (pc := 14) dX7_refuse_14 rfl ?_
                    refine fr_iload_n (pc := 15) dX7_refuse_15 rfl rfl ?_
                    refine fr_iadd (z := w32 ((w32 (8 * (gI M57 70 3))) + 1)) (pc := 16) dX7_refuse_16 rfl ?_
                    refine fr_put (a := 70) (i := 6) (pc := 17) dX7_refuse_17 rfl pf_7_31 rfl s0_70 rfl rfl nf_70_6 rfl ?_
                    refine fr_aload_n (pc := 20) dX7_refuse_20 rfl rfl ?_
                    refine fr_iconst (pc := 21) dX7_refuse_21 (by decide) ?_
                    refine fr_put (a := 70) (i := 4) (pc := 22) dX7_refuse_22 rfl pf_7_40 rfl s0_70 rfl rfl nf_70_4 rfl ?_
                    refine fr_vret (pc := 25) dX7_refuse_25 rfl ?_
                    exact fr_vret (pc := 184) dX7_advance_184 rfl hq
                  · refine fr_vret (pc := 25) dX7_refuse_25 rfl ?_
                    exact fr_vret (pc := 184) dX7_advance_184 rfl hq
                · exact fr_vret (pc := 184) dX7_advance_184 rfl hq
            · refine fr_iconst (pc := 25) dX7_byteAt_25 (by decide) ?_
              refine fr_iret (pc := 26) dX7_byteAt_26 (Or.inl rfl) ?_
              refine fr_bipush (pc := 151) dX7_advance_151 (by decide) ?_
              refine fr_icmT (tg := 163) (pc := 153) dX7_advance_153 rfl rfl ?_
              refine fr_iconst (pc := 163) dX7_advance_163 (by decide) ?_
              refine fr_iload_n (pc := 164) dX7_advance_164 rfl rfl ?_
              refine fr_inSI (as := [(0, pm_iand (gI M 1 (gI M 70 2)) 255)]) (rest := [(0, (-1)), (0, pm_iand (gI M 1 (gI M 70 2)) 255), (2, 70)]) (ls' := [(0, pm_iand (gI M 1 (gI M 70 2)) 255)]) (c1 := 0) (c2 := 0) (pc := 165) dX7_advance_165 pl_7_59 rfl ⟨Nat.le_of_ble_eq_true rfl, Nat.le_of_ble_eq_true rfl⟩ rfl rfl  (by omega) rfl rfl (pm_zc _) (hq sc _ (by omega)) (fun r62 M61 hq => ?_)
              refine fr_inVV (a := 70) (as := [(0, pm_iand (gI M 1 (gI M 70 2)) 255), (0, (-1)), (0, r62)]) (rest := []) (ls' := [(2, 70), (0, pm_iand (gI M 1 (gI M 70 2)) 255), (0, (-1)), (0, r62), (9, 0)]) (c1 := 0) (c2 := 0) (pc := 168) dX7_advance_168 pl_7_62 rfl ⟨Nat.le_of_ble_eq_true rfl, Nat.le_of_ble_eq_true rfl⟩ rfl rfl rfl s0_70 (Nat.le_of_ble_eq_true rfl) (by omega) rfl rfl (pm_zc _) (hq sc _ (by omega)) (fun M63 hq => ?_)
              refine fr_aload_n (pc := 171) dX7_advance_171 rfl rfl ?_
              refine fr_getf (a := 70) (i := 4) (v := gI M63 70 4) (t := 0) (pc := 172) dX7_advance_172 rfl pf_7_40 rfl s0_70 rfl rfl ?_
              refine fr_iconst (pc := 175) dX7_advance_175 (by decide) ?_
              refine fr_icm_ne (tg := 184) (pc := 176) dX7_advance_176 rfl hq (fun hc65 hq => ?_) (fun hc65 hq => ?_)
              · refine fr_aload_n (pc := 179) dX7_advance_179 rfl rfl ?_
                refine fr_iconst (pc := 180) dX7_advance_180 (by decide) ?_
                refine fr_inVV (a := 70) (as := [(0, 1)]) (rest := []) (ls' := [(2, 70), (0, 1)]) (c1 := 0) (c2 := 0) (pc := 181) dX7_advance_181 pl_7_66 rfl ⟨Nat.le_of_ble_eq_true rfl, Nat.le_of_ble_eq_true rfl⟩ rfl rfl rfl s0_70 (Nat.le_of_ble_eq_true rfl) (by omega) rfl rfl (pm_zc _) ?_ (fun M' h => h)
                refine fr_aload_n (pc := 0) dX7_refuse_0 rfl rfl ?_
                refine fr_getf (a := 70) (i := 6) (v := gI M63 70 6) (t := 0) (pc := 1) dX7_refuse_1 rfl pf_7_31 rfl s0_70 rfl rfl ?_
                refine fr_ifc_ne (tg := 25) (pc := 4) dX7_refuse_4 rfl hq (fun hc66 hq => ?_) (fun hc66 hq => ?_)
                · refine fr_aload_n (pc := 7) dX7_refuse_7 rfl rfl ?_
                  refine fr_bipush (pc := 8) dX7_refuse_8 (by decide) ?_
                  refine fr_aload_n (pc := 10) dX7_refuse_10 rfl rfl ?_
                  refine fr_getf (a := 70) (i := 3) (v := gI M63 70 3) (t := 0) (pc := 11) dX7_refuse_11 rfl pf_7_37 rfl s0_70 rfl rfl ?_
                  refine fr_imul (z := w32 (8 * (gI M63 70 3))) (pc := 14) dX7_refuse_14 rfl ?_
                  refine fr_iload_n (pc := 15) dX7_refuse_15 rfl rfl ?_
                  refine fr_iadd (z := w32 ((w32 (8 * (gI M63 70 3))) + 1)) (pc := 16) dX7_refuse_16 rfl ?_
                  refine fr_put (a := 70) (i := 6) (pc := 17) dX7_refuse_17 rfl pf_7_31 rfl s0_70 rfl rfl nf_70_6 rfl ?_
                  refine fr_aload_n (pc := 20) dX7_refuse_20 rfl rfl ?_
                  refine fr_iconst (pc := 21) dX7_refuse_21 (by decide) ?_
                  refine fr_put (a := 70) (i := 4) (pc := 22) dX7_refuse_22 rfl pf_7_40 rfl s0_70 rfl rfl nf_70_4 rfl ?_
                  refine fr_vret (pc := 25) dX7_refuse_25 rfl ?_
                  exact fr_vret (pc := 184) dX7_advance_184 rfl hq
                · refine fr_vret (pc := 25) dX7_refuse_25 rfl ?_
                  exact fr_vret (pc := 184) dX7_advance_184 rfl hq
              · exact fr_vret (pc := 184) dX7_advance_184 rfl hq
        · refine fr_iload_n (pc := 126) dX7_advance_126 rfl rfl ?_
          refine fr_bipush (pc := 127) dX7_advance_127 (by decide) ?_
          refine fr_icm_gt (tg := 139) (pc := 129) dX7_advance_129 rfl hq (fun hc67 hq => ?_) (fun hc67 hq => ?_)
          · refine fr_aload_n (pc := 132) dX7_advance_132 rfl rfl ?_
            refine fr_inVV (a := 70) (as := []) (rest := []) (ls' := [(2, 70)]) (c1 := 0) (c2 := 0) (pc := 133) dX7_advance_133 pl_7_53 rfl ⟨Nat.le_of_ble_eq_true rfl, Nat.le_of_ble_eq_true rfl⟩ rfl rfl rfl s0_70 (Nat.le_of_ble_eq_true rfl) (by omega) rfl rfl (pm_zc _) (hq sc _ (by omega)) (fun M68 hq => ?_)
            refine fr_goto (tg := 171) (pc := 136) dX7_advance_136 rfl ?_
            refine fr_aload_n (pc := 171) dX7_advance_171 rfl rfl ?_
            refine fr_getf (a := 70) (i := 4) (v := gI M68 70 4) (t := 0) (pc := 172) dX7_advance_172 rfl pf_7_40 rfl s0_70 rfl rfl ?_
            refine fr_iconst (pc := 175) dX7_advance_175 (by decide) ?_
            refine fr_icm_ne (tg := 184) (pc := 176) dX7_advance_176 rfl hq (fun hc70 hq => ?_) (fun hc70 hq => ?_)
            · refine fr_aload_n (pc := 179) dX7_advance_179 rfl rfl ?_
              refine fr_iconst (pc := 180) dX7_advance_180 (by decide) ?_
              refine fr_inVV (a := 70) (as := [(0, 1)]) (rest := []) (ls' := [(2, 70), (0, 1)]) (c1 := 0) (c2 := 0) (pc := 181) dX7_advance_181 pl_7_66 rfl ⟨Nat.le_of_ble_eq_true rfl, Nat.le_of_ble_eq_true rfl⟩ rfl rfl rfl s0_70 (Nat.le_of_ble_eq_true rfl) (by omega) rfl rfl (pm_zc _) ?_ (fun M' h => h)
              refine fr_aload_n (pc := 0) dX7_refuse_0 rfl rfl ?_
              refine fr_getf (a := 70) (i := 6) (v := gI M68 70 6) (t := 0) (pc := 1) dX7_refuse_1 rfl pf_7_31 rfl s0_70 rfl rfl ?_
              refine fr_ifc_ne (tg := 25) (pc := 4) dX7_refuse_4 rfl hq (fun hc71 hq => ?_) (fun hc71 hq => ?_)
              · refine fr_aload_n (pc := 7) dX7_refuse_7 rfl rfl ?_
                refine fr_bipush (pc := 8) dX7_refuse_8 (by decide) ?_
                refine fr_aload_n (pc := 10) dX7_refuse_10 rfl rfl ?_
                refine fr_getf (a := 70) (i := 3) (v := gI M68 70 3) (t := 0) (pc := 11) dX7_refuse_11 rfl pf_7_37 rfl s0_70 rfl rfl ?_
                refine fr_imul (z := w32 (8 * (gI M68 70 3))) (pc := 14) dX7_refuse_14 rfl ?_
                refine fr_iload_n (pc := 15) dX7_refuse_15 rfl rfl ?_
                refine fr_iadd (z := w32 ((w32 (8 * (gI M68 70 3))) + 1)) (pc := 16) dX7_refuse_16 rfl ?_
                refine fr_put (a := 70) (i := 6) (pc := 17) dX7_refuse_17 rfl pf_7_31 rfl s0_70 rfl rfl nf_70_6 rfl ?_
                refine fr_aload_n (pc := 20) dX7_refuse_20 rfl rfl ?_
                refine fr_iconst (pc := 21) dX7_refuse_21 (by decide) ?_
                refine fr_put (a := 70) (i := 4) (pc := 22) dX7_refuse_22 rfl pf_7_40 rfl s0_70 rfl rfl nf_70_4 rfl ?_
                refine fr_vret (pc := 25) dX7_refuse_25 rfl ?_
                exact fr_vret (pc := 184) dX7_advance_184 rfl hq
              · refine fr_vret (pc := 25) dX7_refuse_25 rfl ?_
                exact fr_vret (pc := 184) dX7_advance_184 rfl hq
            · exact fr_vret (pc := 184) dX7_advance_184 rfl hq
          · refine fr_aload_n (pc := 139) dX7_advance_139 rfl rfl ?_
            refine fr_iload_n (pc := 140) dX7_advance_140 rfl rfl ?_
            refine fr_aload_n (pc := 141) dX7_advance_141 rfl rfl ?_
            refine fr_aload_n (pc := 142) dX7_advance_142 rfl rfl ?_
            refine fr_getf (a := 70) (i := 2) (v := gI M 70 2) (t := 0) (pc := 143) dX7_advance_143 rfl pf_7_28 rfl s0_70 rfl ((gI_nf _ _ (by decide)).trans (gI_nf _ _ (by decide))) ?_
            refine fr_iconst (pc := 146) dX7_advance_146 (by decide) ?_
            refine fr_iadd (z := w32 ((gI M 70 2) + 1)) (pc := 147) dX7_advance_147 rfl ?_
            refine fr_inVI (a := 70) (as := [(0, w32 ((gI M 70 2) + 1))]) (rest := [(0, pm_iand (gI M 1 (gI M 70 2)) 255), (2, 70)]) (ls' := [(2, 70), (0, w32 ((gI M 70 2) + 1))]) (c1 := 0) (c2 := 0) (pc := 148) dX7_advance_148 pl_7_46 rfl ⟨Nat.le_of_ble_eq_true rfl, Nat.le_of_ble_eq_true rfl⟩ rfl rfl rfl s0_70 (Nat.le_of_ble_eq_true rfl) (by omega) rfl rfl (pm_zc _) ?_ (fun y M' h => h)
            refine fr_iload_n (pc := 0) dX7_byteAt_0 rfl rfl ?_
            refine fr_ifc_lt (tg := 25) (pc := 1) dX7_byteAt_1 rfl hq (fun hc72 hq => ?_) (fun hc72 hq => ?_)
            · refine fr_iconst (pc := 25) dX7_byteAt_25 (by decide) ?_
              refine fr_iret (pc := 26) dX7_byteAt_26 (Or.inl rfl) ?_
              refine fr_bipush (pc := 151) dX7_advance_151 (by decide) ?_
              refine fr_icmT (tg := 163) (pc := 153) dX7_advance_153 rfl rfl ?_
              refine fr_iconst (pc := 163) dX7_advance_163 (by decide) ?_
              refine fr_iload_n (pc := 164) dX7_advance_164 rfl rfl ?_
              refine fr_inSI (as := [(0, pm_iand (gI M 1 (gI M 70 2)) 255)]) (rest := [(0, (-1)), (0, pm_iand (gI M 1 (gI M 70 2)) 255), (2, 70)]) (ls' := [(0, pm_iand (gI M 1 (gI M 70 2)) 255)]) (c1 := 0) (c2 := 0) (pc := 165) dX7_advance_165 pl_7_59 rfl ⟨Nat.le_of_ble_eq_true rfl, Nat.le_of_ble_eq_true rfl⟩ rfl rfl  (by omega) rfl rfl (pm_zc _) (hq sc _ (by omega)) (fun r74 M73 hq => ?_)
              refine fr_inVV (a := 70) (as := [(0, pm_iand (gI M 1 (gI M 70 2)) 255), (0, (-1)), (0, r74)]) (rest := []) (ls' := [(2, 70), (0, pm_iand (gI M 1 (gI M 70 2)) 255), (0, (-1)), (0, r74), (9, 0)]) (c1 := 0) (c2 := 0) (pc := 168) dX7_advance_168 pl_7_62 rfl ⟨Nat.le_of_ble_eq_true rfl, Nat.le_of_ble_eq_true rfl⟩ rfl rfl rfl s0_70 (Nat.le_of_ble_eq_true rfl) (by omega) rfl rfl (pm_zc _) (hq sc _ (by omega)) (fun M75 hq => ?_)
              refine fr_aload_n (pc := 171) dX7_advance_171 rfl rfl ?_
              refine fr_getf (a := 70) (i := 4) (v := gI M75 70 4) (t := 0) (pc := 172) dX7_advance_172 rfl pf_7_40 rfl s0_70 rfl rfl ?_
              refine fr_iconst (pc := 175) dX7_advance_175 (by decide) ?_
              refine fr_icm_ne (tg := 184) (pc := 176) dX7_advance_176 rfl hq (fun hc77 hq => ?_) (fun hc77 hq => ?_)
              · refine fr_aload_n (pc := 179) dX7_advance_179 rfl rfl ?_
                refine fr_iconst (pc := 180) dX7_advance_180 (by decide) ?_
                refine fr_inVV (a := 70) (as := [(0, 1)]) (rest := []) (ls' := [(2, 70), (0, 1)]) (c1 := 0) (c2 := 0) (pc := 181) dX7_advance_181 pl_7_66 rfl ⟨Nat.le_of_ble_eq_true rfl, Nat.le_of_ble_eq_true rfl⟩ rfl rfl rfl s0_70 (Nat.le_of_ble_eq_true rfl) (by omega) rfl rfl (pm_zc _) ?_ (fun M' h => h)
                refine fr_aload_n (pc := 0) dX7_refuse_0 rfl rfl ?_
                refine fr_getf (a := 70) (i := 6) (v := gI M75 70 6) (t := 0) (pc := 1) dX7_refuse_1 rfl pf_7_31 rfl s0_70 rfl rfl ?_
                refine fr_ifc_ne (tg := 25) (pc := 4) dX7_refuse_4 rfl hq (fun hc78 hq => ?_) (fun hc78 hq => ?_)
                · refine fr_aload_n (pc := 7) dX7_refuse_7 rfl rfl ?_
                  refine fr_bipush (pc := 8) dX7_refuse_8 (by decide) ?_
                  refine fr_aload_n (pc := 10) dX7_refuse_10 rfl rfl ?_
                  refine fr_getf (a := 70) (i := 3) (v := gI M75 70 3) (t := 0) (pc := 11) dX7_refuse_11 rfl pf_7_37 rfl s0_70 rfl rfl ?_
                  refine fr_imul (z := w32 (8 * (gI M75 70 3))) (pc := 14) dX7_refuse_14 rfl ?_
                  refine fr_iload_n (pc := 15) dX7_refuse_15 rfl rfl ?_
                  refine fr_iadd (z := w32 ((w32 (8 * (gI M75 70 3))) + 1)) (pc := 16) dX7_refuse_16 rfl ?_
                  refine fr_put (a := 70) (i := 6) (pc := 17) dX7_refuse_17 rfl pf_7_31 rfl s0_70 rfl rfl nf_70_6 rfl ?_
                  refine fr_aload_n (pc := 20) dX7_refuse_20 rfl rfl ?_
                  refine fr_iconst (pc := 21) dX7_refuse_21 (by decide) ?_
                  refine fr_put (a := 70) (i := 4) (pc := 22) dX7_refuse_22 rfl pf_7_40 rfl s0_70 rfl rfl nf_70_4 rfl ?_
                  refine fr_vret (pc := 25) dX7_refuse_25 rfl ?_
                  exact fr_vret (pc := 184) dX7_advance_184 rfl hq
                · refine fr_vret (pc := 25) dX7_refuse_25 rfl ?_
                  exact fr_vret (pc := 184) dX7_advance_184 rfl hq
              · exact fr_vret (pc := 184) dX7_advance_184 rfl hq
            · refine fr_iload_n (pc := 4) dX7_byteAt_4 rfl rfl ?_
              refine fr_aload_n (pc := 5) dX7_byteAt_5 rfl rfl ?_
              refine fr_getf (a := 70) (i := 1) (v := gI M 70 1) (t := 0) (pc := 6) dX7_byteAt_6 rfl pf_7_24 rfl s0_70 rfl ((gI_nf _ _ (by decide)).trans (gI_nf _ _ (by decide))) ?_
              refine fr_icm_ge (tg := 25) (pc := 9) dX7_byteAt_9 rfl hq (fun hc79 hq => ?_) (fun hc79 hq => ?_)
              · refine fr_aload_n (pc := 12) dX7_byteAt_12 rfl rfl ?_
                refine fr_getr (a := 70) (pc := 13) dX7_byteAt_13 rfl pf_7_9 s0_70 rfl rf_70_0 ?_
                refine fr_iload_n (pc := 16) dX7_byteAt_16 rfl rfl ?_
                obtain ⟨hb80, hq⟩ := hq
                refine fr_baload (a := 1) (v := gI M 1 (w32 ((gI M 70 2) + 1))) (pc := 17) dX7_byteAt_17 rfl s0_1 hb80 (Or.inl rfl) ((gI_ne _ _ _ _ (by decide)).trans (gI_ne _ _ _ _ (by decide))) ?_
                refine fr_sipush (pc := 18) dX7_byteAt_18 (by decide) ?_
                refine fr_iand (z := pm_iand (gI M 1 (w32 ((gI M 70 2) + 1))) 255) (pc := 21) dX7_byteAt_21 rfl ?_
                refine fr_goto (tg := 26) (pc := 22) dX7_byteAt_22 rfl ?_
                refine fr_iret (pc := 26) dX7_byteAt_26 (Or.inl rfl) ?_
                refine fr_bipush (pc := 151) dX7_advance_151 (by decide) ?_
                refine fr_icm_ne (tg := 163) (pc := 153) dX7_advance_153 rfl hq (fun hc81 hq => ?_) (fun hc81 hq => ?_)
                · refine fr_iload_n (pc := 156) dX7_advance_156 rfl rfl ?_
                  refine fr_inSI (as := [(0, pm_iand (gI M 1 (gI M 70 2)) 255)]) (rest := [(0, pm_iand (gI M 1 (gI M 70 2)) 255), (2, 70)]) (ls' := [(0, pm_iand (gI M 1 (gI M 70 2)) 255)]) (c1 := 0) (c2 := 0) (pc := 157) dX7_advance_157 pl_7_56 rfl ⟨Nat.le_of_ble_eq_true rfl, Nat.le_of_ble_eq_true rfl⟩ rfl rfl  (by omega) rfl rfl (pm_zc _) (hq sc _ (by omega)) (fun r83 M82 hq => ?_)
                  refine fr_goto (tg := 164) (pc := 160) dX7_advance_160 rfl ?_
                  refine fr_iload_n (pc := 164) dX7_advance_164 rfl rfl ?_
                  refine fr_inSI (as := [(0, pm_iand (gI M 1 (gI M 70 2)) 255)]) (rest := [(0, r83), (0, pm_iand (gI M 1 (gI M 70 2)) 255), (2, 70)]) (ls' := [(0, pm_iand (gI M 1 (gI M 70 2)) 255)]) (c1 := 0) (c2 := 0) (pc := 165) dX7_advance_165 pl_7_59 rfl ⟨Nat.le_of_ble_eq_true rfl, Nat.le_of_ble_eq_true rfl⟩ rfl rfl  (by omega) rfl rfl (pm_zc _) (hq sc _ (by omega)) (fun r85 M84 hq => ?_)
                  refine fr_inVV (a := 70) (as := [(0, pm_iand (gI M 1 (gI M 70 2)) 255), (0, r83), (0, r85)]) (rest := []) (ls' := [(2, 70), (0, pm_iand (gI M 1 (gI M 70 2)) 255), (0, r83), (0, r85), (9, 0)]) (c1 := 0) (c2 := 0) (pc := 168) dX7_advance_168 pl_7_62 rfl ⟨Nat.le_of_ble_eq_true rfl, Nat.le_of_ble_eq_true rfl⟩ rfl rfl rfl s0_70 (Nat.le_of_ble_eq_true rfl) (by omega) rfl rfl (pm_zc _) (hq sc _ (by omega)) (fun M86 hq => ?_)
                  refine fr_aload_n (pc := 171) dX7_advance_171 rfl rfl ?_
                  refine fr_getf (a := 70) (i := 4) (v := gI M86 70 4) (t := 0) (pc := 172) dX7_advance_172 rfl pf_7_40 rfl s0_70 rfl rfl ?_
                  refine fr_iconst (pc := 175) dX7_advance_175 (by decide) ?_
                  refine fr_icm_ne (tg := 184) (pc := 176) dX7_advance_176 rfl hq (fun hc88 hq => ?_) (fun hc88 hq => ?_)
                  · refine fr_aload_n (pc := 179) dX7_advance_179 rfl rfl ?_
                    refine fr_iconst (pc := 180) dX7_advance_180 (by decide) ?_
                    refine fr_inVV (a := 70) (as := [(0, 1)]) (rest := []) (ls' := [(2, 70), (0, 1)]) (c1 := 0) (c2 := 0) (pc := 181) dX7_advance_181 pl_7_66 rfl ⟨Nat.le_of_ble_eq_true rfl, Nat.le_of_ble_eq_true rfl⟩ rfl rfl rfl s0_70 (Nat.le_of_ble_eq_true rfl) (by omega) rfl rfl (pm_zc _) ?_ (fun M' h => h)
                    refine fr_aload_n (pc := 0) dX7_refuse_0 rfl rfl ?_
                    refine fr_getf (a := 70) (i := 6) (v := gI M86 70 6) (t := 0) (pc := 1) dX7_refuse_1 rfl pf_7_31 rfl s0_70 rfl rfl ?_
                    refine fr_ifc_ne (tg := 25) (pc := 4) dX7_refuse_4 rfl hq (fun hc89 hq => ?_) (fun hc89 hq => ?_)
                    · refine fr_aload_n (pc := 7) dX7_refuse_7 rfl rfl ?_
                      refine fr_bipush (pc := 8) dX7_refuse_8 (by decide) ?_
                      refine fr_aload_n (pc := 10) dX7_refuse_10 rfl rfl ?_
                      refine fr_getf (a := 70) (i := 3) (v := gI M86 70 3) (t := 0) (pc := 11) dX7_refuse_11 rfl pf_7_37 rfl s0_70 rfl rfl ?_
                      refine fr_imul (z := w32 (8 * (gI M86 70 3))) (pc := 14) dX7_refuse_14 rfl ?_
                      refine fr_iload_n (pc := 15) dX7_refuse_15 rfl rfl ?_
                      refine fr_iadd (z := w32 ((w32 (8 * (gI M86 70 3))) + 1)) (pc := 16) dX7_refuse_16 rfl ?_
                      refine fr_put (a := 70) (i := 6) (pc := 17) dX7_refuse_17 rfl pf_7_31 rfl s0_70 rfl rfl nf_70_6 rfl ?_
                      refine fr_aload_n (pc := 20) dX7_refuse_20 rfl rfl ?_
                      refine fr_iconst (pc := 21) dX7_refuse_21 (by decide) ?_
                      refine fr_put (a := 70) (i := 4) (pc := 22) dX7_refuse_22 rfl pf_7_40 rfl s0_70 rfl rfl nf_70_4 rfl ?_
                      refine fr_vret (pc := 25) dX7_refuse_25 rfl ?_
                      exact fr_vret (pc := 184) dX7_advance_184 rfl hq
                    · refine fr_vret (pc := 25) dX7_refuse_25 rfl ?_
                      exact fr_vret (pc := 184) dX7_advance_184 rfl hq
                  · exact fr_vret (pc := 184) dX7_advance_184 rfl hq
                · refine fr_iconst (pc := 163) dX7_advance_163 (by decide) ?_
                  refine fr_iload_n (pc := 164) dX7_advance_164 rfl rfl ?_
                  refine fr_inSI (as := [(0, pm_iand (gI M 1 (gI M 70 2)) 255)]) (rest := [(0, (-1)), (0, pm_iand (gI M 1 (gI M 70 2)) 255), (2, 70)]) (ls' := [(0, pm_iand (gI M 1 (gI M 70 2)) 255)]) (c1 := 0) (c2 := 0) (pc := 165) dX7_advance_165 pl_7_59 rfl ⟨Nat.le_of_ble_eq_true rfl, Nat.le_of_ble_eq_true rfl⟩ rfl rfl  (by omega) rfl rfl (pm_zc _) (hq sc _ (by omega)) (fun r91 M90 hq => ?_)
                  refine fr_inVV (a := 70) (as := [(0, pm_iand (gI M 1 (gI M 70 2)) 255), (0, (-1)), (0, r91)]) (rest := []) (ls' := [(2, 70), (0, pm_iand (gI M 1 (gI M 70 2)) 255), (0, (-1)), (0, r91), (9, 0)]) (c1 := 0) (c2 := 0) (pc := 168) dX7_advance_168 pl_7_62 rfl ⟨Nat.le_of_ble_eq_true rfl, Nat.le_of_ble_eq_true rfl⟩ rfl rfl rfl s0_70 (Nat.le_of_ble_eq_true rfl) (by omega) rfl rfl (pm_zc _) (hq sc _ (by omega)) (fun M92 hq => ?_)
                  refine fr_aload_n (pc := 171) dX7_advance_171 rfl rfl ?_
                  refine fr_getf (a := 70) (i := 4) (v := gI M92 70 4) (t := 0) (pc := 172) dX7_advance_172 rfl pf_7_40 rfl s0_70 rfl rfl ?_
                  refine fr_iconst (pc := 175) dX7_advance_175 (by decide) ?_
                  refine fr_icm_ne (tg := 184) (pc := 176) dX7_advance_176 rfl hq (fun hc94 hq => ?_) (fun hc94 hq => ?_)
                  · refine fr_aload_n (pc := 179) dX7_advance_179 rfl rfl ?_
                    refine fr_iconst (pc := 180) dX7_advance_180 (by decide) ?_
                    refine fr_inVV (a := 70) (as := [(0, 1)]) (rest := []) (ls' := [(2, 70), (0, 1)]) (c1 := 0) (c2 := 0) (pc := 181) dX7_advance_181 pl_7_66 rfl ⟨Nat.le_of_ble_eq_true rfl, Nat.le_of_ble_eq_true rfl⟩ rfl rfl rfl s0_70 (Nat.le_of_ble_eq_true rfl) (by omega) rfl rfl (pm_zc _) ?_ (fun M' h => h)
                    refine fr_aload_n (pc := 0) dX7_refuse_0 rfl rfl ?_
                    refine fr_getf (a := 70) (i := 6) (v := gI M92 70 6) (t := 0) (pc := 1) dX7_refuse_1 rfl pf_7_31 rfl s0_70 rfl rfl ?_
                    refine fr_ifc_ne (tg := 25) (pc := 4) dX7_refuse_4 rfl hq (fun hc95 hq => ?_) (fun hc95 hq => ?_)
                    · refine fr_aload_n (pc := 7) dX7_refuse_7 rfl rfl ?_
                      refine fr_bipush (pc := 8) dX7_refuse_8 (by decide) ?_
                      refine fr_aload_n (pc := 10) dX7_refuse_10 rfl rfl ?_
                      refine fr_getf (a := 70) (i := 3) (v := gI M92 70 3) (t := 0) (pc := 11) dX7_refuse_11 rfl pf_7_37 rfl s0_70 rfl rfl ?_
                      refine fr_imul (z := w32 (8 * (gI M92 70 3))) (pc := 14) dX7_refuse_14 rfl ?_
                      refine fr_iload_n (pc := 15) dX7_refuse_15 rfl rfl ?_
                      refine fr_iadd (z := w32 ((w32 (8 * (gI M92 70 3))) + 1)) (pc := 16) dX7_refuse_16 rfl ?_
                      refine fr_put (a := 70) (i := 6) (pc := 17) dX7_refuse_17 rfl pf_7_31 rfl s0_70 rfl rfl nf_70_6 rfl ?_
                      refine fr_aload_n (pc := 20) dX7_refuse_20 rfl rfl ?_
                      refine fr_iconst (pc := 21) dX7_refuse_21 (by decide) ?_
                      refine fr_put (a := 70) (i := 4) (pc := 22) dX7_refuse_22 rfl pf_7_40 rfl s0_70 rfl rfl nf_70_4 rfl ?_
                      refine fr_vret (pc := 25) dX7_refuse_25 rfl ?_
                      exact fr_vret (pc := 184) dX7_advance_184 rfl hq
                    · refine fr_vret (pc := 25) dX7_refuse_25 rfl ?_
                      exact fr_vret (pc := 184) dX7_advance_184 rfl hq
                  · exact fr_vret (pc := 184) dX7_advance_184 rfl hq
              · refine fr_iconst (pc := 25) dX7_byteAt_25 (by decide) ?_
                refine fr_iret (pc := 26) dX7_byteAt_26 (Or.inl rfl) ?_
                refine fr_bipush (pc := 151) dX7_advance_151 (by decide) ?_
                refine fr_icmT (tg := 163) (pc := 153) dX7_advance_153 rfl rfl ?_
                refine fr_iconst (pc := 163) dX7_advance_163 (by decide) ?_
                refine fr_iload_n (pc := 164) dX7_advance_164 rfl rfl ?_
                refine fr_inSI (as := [(0, pm_iand (gI M 1 (gI M 70 2)) 255)]) (rest := [(0, (-1)), (0, pm_iand (gI M 1 (gI M 70 2)) 255), (2, 70)]) (ls' := [(0, pm_iand (gI M 1 (gI M 70 2)) 255)]) (c1 := 0) (c2 := 0) (pc := 165) dX7_advance_165 pl_7_59 rfl ⟨Nat.le_of_ble_eq_true rfl, Nat.le_of_ble_eq_true rfl⟩ rfl rfl  (by omega) rfl rfl (pm_zc _) (hq sc _ (by omega)) (fun r97 M96 hq => ?_)
                refine fr_inVV (a := 70) (as := [(0, pm_iand (gI M 1 (gI M 70 2)) 255), (0, (-1)), (0, r97)]) (rest := []) (ls' := [(2, 70), (0, pm_iand (gI M 1 (gI M 70 2)) 255), (0, (-1)), (0, r97), (9, 0)]) (c1 := 0) (c2 := 0) (pc := 168) dX7_advance_168 pl_7_62 rfl ⟨Nat.le_of_ble_eq_true rfl, Nat.le_of_ble_eq_true rfl⟩ rfl rfl rfl s0_70 (Nat.le_of_ble_eq_true rfl) (by omega) rfl rfl (pm_zc _) (hq sc _ (by omega)) (fun M98 hq => ?_)
                refine fr_aload_n (pc := 171) dX7_advance_171 rfl rfl ?_
                refine fr_getf (a := 70) (i := 4) (v := gI M98 70 4) (t := 0) (pc := 172) dX7_advance_172 rfl pf_7_40 rfl s0_70 rfl rfl ?_
                refine fr_iconst (pc := 175) dX7_advance_175 (by decide) ?_
                refine fr_icm_ne (tg := 184) (pc := 176) dX7_advance_176 rfl hq (fun hc100 hq => ?_) (fun hc100 hq => ?_)
                · refine fr_aload_n (pc := 179) dX7_advance_179 rfl rfl ?_
                  refine fr_iconst (pc := 180) dX7_advance_180 (by decide) ?_
                  refine fr_inVV (a := 70) (as := [(0, 1)]) (rest := []) (ls' := [(2, 70), (0, 1)]) (c1 := 0) (c2 := 0) (pc := 181) dX7_advance_181 pl_7_66 rfl ⟨Nat.le_of_ble_eq_true rfl, Nat.le_of_ble_eq_true rfl⟩ rfl rfl rfl s0_70 (Nat.le_of_ble_eq_true rfl) (by omega) rfl rfl (pm_zc _) ?_ (fun M' h => h)
                  refine fr_aload_n (pc := 0) dX7_refuse_0 rfl rfl ?_
                  refine fr_getf (a := 70) (i := 6) (v := gI M98 70 6) (t := 0) (pc := 1) dX7_refuse_1 rfl pf_7_31 rfl s0_70 rfl rfl ?_
                  refine fr_ifc_ne (tg := 25) (pc := 4) dX7_refuse_4 rfl hq (fun hc101 hq => ?_) (fun hc101 hq => ?_)
                  · refine fr_aload_n (pc := 7) dX7_refuse_7 rfl rfl ?_
                    refine fr_bipush (pc := 8) dX7_refuse_8 (by decide) ?_
                    refine fr_aload_n (pc := 10) dX7_refuse_10 rfl rfl ?_
                    refine fr_getf (a := 70) (i := 3) (v := gI M98 70 3) (t := 0) (pc := 11) dX7_refuse_11 rfl pf_7_37 rfl s0_70 rfl rfl ?_
                    refine fr_imul (z := w32 (8 * (gI M98 70 3))) (pc := 14) dX7_refuse_14 rfl ?_
                    refine fr_iload_n (pc := 15) dX7_refuse_15 rfl rfl ?_
                    refine fr_iadd (z := w32 ((w32 (8 * (gI M98 70 3))) + 1)) (pc := 16) dX7_refuse_16 rfl ?_
                    refine fr_put (a := 70) (i := 6) (pc := 17) dX7_refuse_17 rfl pf_7_31 rfl s0_70 rfl rfl nf_70_6 rfl ?_
                    refine fr_aload_n (pc := 20) dX7_refuse_20 rfl rfl ?_
                    refine fr_iconst (pc := 21) dX7_refuse_21 (by decide) ?_
                    refine fr_put (a := 70) (i := 4) (pc := 22) dX7_refuse_22 rfl pf_7_40 rfl s0_70 rfl rfl nf_70_4 rfl ?_
                    refine fr_vret (pc := 25) dX7_refuse_25 rfl ?_
                    exact fr_vret (pc := 184) dX7_advance_184 rfl hq
                  · refine fr_vret (pc := 25) dX7_refuse_25 rfl ?_
                    exact fr_vret (pc := 184) dX7_advance_184 rfl hq
                · exact fr_vret (pc := 184) dX7_advance_184 rfl hq
      · refine fr_iload_n (pc := 107) dX7_advance_107 rfl rfl ?_
        refine fr_bipush (pc := 108) dX7_advance_108 (by decide) ?_
        refine fr_icm_gt (tg := 120) (pc := 110) dX7_advance_110 rfl hq (fun hc102 hq => ?_) (fun hc102 hq => ?_)
        · refine fr_aload_n (pc := 113) dX7_advance_113 rfl rfl ?_
          refine fr_inVV (a := 70) (as := []) (rest := []) (ls' := [(2, 70)]) (c1 := 0) (c2 := 0) (pc := 114) dX7_advance_114 pl_7_50 rfl ⟨Nat.le_of_ble_eq_true rfl, Nat.le_of_ble_eq_true rfl⟩ rfl rfl rfl s0_70 (Nat.le_of_ble_eq_true rfl) (by omega) rfl rfl (pm_zc _) (hq sc _ (by omega)) (fun M103 hq => ?_)
          refine fr_goto (tg := 171) (pc := 117) dX7_advance_117 rfl ?_
          refine fr_aload_n (pc := 171) dX7_advance_171 rfl rfl ?_
          refine fr_getf (a := 70) (i := 4) (v := gI M103 70 4) (t := 0) (pc := 172) dX7_advance_172 rfl pf_7_40 rfl s0_70 rfl rfl ?_
          refine fr_iconst (pc := 175) dX7_advance_175 (by decide) ?_
          refine fr_icm_ne (tg := 184) (pc := 176) dX7_advance_176 rfl hq (fun hc105 hq => ?_) (fun hc105 hq => ?_)
          · refine fr_aload_n (pc := 179) dX7_advance_179 rfl rfl ?_
            refine fr_iconst (pc := 180) dX7_advance_180 (by decide) ?_
            refine fr_inVV (a := 70) (as := [(0, 1)]) (rest := []) (ls' := [(2, 70), (0, 1)]) (c1 := 0) (c2 := 0) (pc := 181) dX7_advance_181 pl_7_66 rfl ⟨Nat.le_of_ble_eq_true rfl, Nat.le_of_ble_eq_true rfl⟩ rfl rfl rfl s0_70 (Nat.le_of_ble_eq_true rfl) (by omega) rfl rfl (pm_zc _) ?_ (fun M' h => h)
            refine fr_aload_n (pc := 0) dX7_refuse_0 rfl rfl ?_
            refine fr_getf (a := 70) (i := 6) (v := gI M103 70 6) (t := 0) (pc := 1) dX7_refuse_1 rfl pf_7_31 rfl s0_70 rfl rfl ?_
            refine fr_ifc_ne (tg := 25) (pc := 4) dX7_refuse_4 rfl hq (fun hc106 hq => ?_) (fun hc106 hq => ?_)
            · refine fr_aload_n (pc := 7) dX7_refuse_7 rfl rfl ?_
              refine fr_bipush (pc := 8) dX7_refuse_8 (by decide) ?_
              refine fr_aload_n (pc := 10) dX7_refuse_10 rfl rfl ?_
              refine fr_getf (a := 70) (i := 3) (v := gI M103 70 3) (t := 0) (pc := 11) dX7_refuse_11 rfl pf_7_37 rfl s0_70 rfl rfl ?_
              refine fr_imul (z := w32 (8 * (gI M103 70 3))) (pc := 14) dX7_refuse_14 rfl ?_
              refine fr_iload_n (pc := 15) dX7_refuse_15 rfl rfl ?_
              refine fr_iadd (z := w32 ((w32 (8 * (gI M103 70 3))) + 1)) (pc := 16) dX7_refuse_16 rfl ?_
              refine fr_put (a := 70) (i := 6) (pc := 17) dX7_refuse_17 rfl pf_7_31 rfl s0_70 rfl rfl nf_70_6 rfl ?_
              refine fr_aload_n (pc := 20) dX7_refuse_20 rfl rfl ?_
              refine fr_iconst (pc := 21) dX7_refuse_21 (by decide) ?_
              refine fr_put (a := 70) (i := 4) (pc := 22) dX7_refuse_22 rfl pf_7_40 rfl s0_70 rfl rfl nf_70_4 rfl ?_
              refine fr_vret (pc := 25) dX7_refuse_25 rfl ?_
              exact fr_vret (pc := 184) dX7_advance_184 rfl hq
            · refine fr_vret (pc := 25) dX7_refuse_25 rfl ?_
              exact fr_vret (pc := 184) dX7_advance_184 rfl hq
          · exact fr_vret (pc := 184) dX7_advance_184 rfl hq
        · refine fr_iload_n (pc := 120) dX7_advance_120 rfl rfl ?_
          refine fr_bipush (pc := 121) dX7_advance_121 (by decide) ?_
          refine fr_icm_lt (tg := 139) (pc := 123) dX7_advance_123 rfl hq (fun hc107 hq => ?_) (fun hc107 hq => ?_)
          · refine fr_aload_n (pc := 139) dX7_advance_139 rfl rfl ?_
            refine fr_iload_n (pc := 140) dX7_advance_140 rfl rfl ?_
            refine fr_aload_n (pc := 141) dX7_advance_141 rfl rfl ?_
            refine fr_aload_n (pc := 142) dX7_advance_142 rfl rfl ?_
            refine fr_getf (a := 70) (i := 2) (v := gI M 70 2) (t := 0) (pc := 143) dX7_advance_143 rfl pf_7_28 rfl s0_70 rfl ((gI_nf _ _ (by decide)).trans (gI_nf _ _ (by decide))) ?_
            refine fr_iconst (pc := 146) dX7_advance_146 (by decide) ?_
            refine fr_iadd (z := w32 ((gI M 70 2) + 1)) (pc := 147) dX7_advance_147 rfl ?_
            refine fr_inVI (a := 70) (as := [(0, w32 ((gI M 70 2) + 1))]) (rest := [(0, pm_iand (gI M 1 (gI M 70 2)) 255), (2, 70)]) (ls' := [(2, 70), (0, w32 ((gI M 70 2) + 1))]) (c1 := 0) (c2 := 0) (pc := 148) dX7_advance_148 pl_7_46 rfl ⟨Nat.le_of_ble_eq_true rfl, Nat.le_of_ble_eq_true rfl⟩ rfl rfl rfl s0_70 (Nat.le_of_ble_eq_true rfl) (by omega) rfl rfl (pm_zc _) ?_ (fun y M' h => h)
            refine fr_iload_n (pc := 0) dX7_byteAt_0 rfl rfl ?_
            refine fr_ifc_lt (tg := 25) (pc := 1) dX7_byteAt_1 rfl hq (fun hc108 hq => ?_) (fun hc108 hq => ?_)
            · refine fr_iconst (pc := 25) dX7_byteAt_25 (by decide) ?_
              refine fr_iret (pc := 26) dX7_byteAt_26 (Or.inl rfl) ?_
              refine fr_bipush (pc := 151) dX7_advance_151 (by decide) ?_
              refine fr_icmT (tg := 163) (pc := 153) dX7_advance_153 rfl rfl ?_
              refine fr_iconst (pc := 163) dX7_advance_163 (by decide) ?_
              refine fr_iload_n (pc := 164) dX7_advance_164 rfl rfl ?_
              refine fr_inSI (as := [(0, pm_iand (gI M 1 (gI M 70 2)) 255)]) (rest := [(0, (-1)), (0, pm_iand (gI M 1 (gI M 70 2)) 255), (2, 70)]) (ls' := [(0, pm_iand (gI M 1 (gI M 70 2)) 255)]) (c1 := 0) (c2 := 0) (pc := 165) dX7_advance_165 pl_7_59 rfl ⟨Nat.le_of_ble_eq_true rfl, Nat.le_of_ble_eq_true rfl⟩ rfl rfl  (by omega) rfl rfl (pm_zc _) (hq sc _ (by omega)) (fun r110 M109 hq => ?_)
              refine fr_inVV (a := 70) (as := [(0, pm_iand (gI M 1 (gI M 70 2)) 255), (0, (-1)), (0, r110)]) (rest := []) (ls' := [(2, 70), (0, pm_iand (gI M 1 (gI M 70 2)) 255), (0, (-1)), (0, r110), (9, 0)]) (c1 := 0) (c2 := 0) (pc := 168) dX7_advance_168 pl_7_62 rfl ⟨Nat.le_of_ble_eq_true rfl, Nat.le_of_ble_eq_true rfl⟩ rfl rfl rfl s0_70 (Nat.le_of_ble_eq_true rfl) (by omega) rfl rfl (pm_zc _) (hq sc _ (by omega)) (fun M111 hq => ?_)
              refine fr_aload_n (pc := 171) dX7_advance_171 rfl rfl ?_
              refine fr_getf (a := 70) (i := 4) (v := gI M111 70 4) (t := 0) (pc := 172) dX7_advance_172 rfl pf_7_40 rfl s0_70 rfl rfl ?_
              refine fr_iconst (pc := 175) dX7_advance_175 (by decide) ?_
              refine fr_icm_ne (tg := 184) (pc := 176) dX7_advance_176 rfl hq (fun hc113 hq => ?_) (fun hc113 hq => ?_)
              · refine fr_aload_n (pc := 179) dX7_advance_179 rfl rfl ?_
                refine fr_iconst (pc := 180) dX7_advance_180 (by decide) ?_
                refine fr_inVV (a := 70) (as := [(0, 1)]) (rest := []) (ls' := [(2, 70), (0, 1)]) (c1 := 0) (c2 := 0) (pc := 181) dX7_advance_181 pl_7_66 rfl ⟨Nat.le_of_ble_eq_true rfl, Nat.le_of_ble_eq_true rfl⟩ rfl rfl rfl s0_70 (Nat.le_of_ble_eq_true rfl) (by omega) rfl rfl (pm_zc _) ?_ (fun M' h => h)
                refine fr_aload_n (pc := 0) dX7_refuse_0 rfl rfl ?_
                refine fr_getf (a := 70) (i := 6) (v := gI M111 70 6) (t := 0) (pc := 1) dX7_refuse_1 rfl pf_7_31 rfl s0_70 rfl rfl ?_
                refine fr_ifc_ne (tg := 25) (pc := 4) dX7_refuse_4 rfl hq (fun hc114 hq => ?_) (fun hc114 hq => ?_)
                · refine fr_aload_n (pc := 7) dX7_refuse_7 rfl rfl ?_
                  refine fr_bipush (pc := 8) dX7_refuse_8 (by decide) ?_
                  refine fr_aload_n (pc := 10) dX7_refuse_10 rfl rfl ?_
                  refine fr_getf (a := 70) (i := 3) (v := gI M111 70 3) (t := 0) (pc := 11) dX7_refuse_11 rfl pf_7_37 rfl s0_70 rfl rfl ?_
                  refine fr_imul (z := w32 (8 * (gI M111 70 3))) (pc := 14) dX7_refuse_14 rfl ?_
                  refine fr_iload_n (pc := 15) dX7_refuse_15 rfl rfl ?_
                  refine fr_iadd (z := w32 ((w32 (8 * (gI M111 70 3))) + 1)) (pc := 16) dX7_refuse_16 rfl ?_
                  refine fr_put (a := 70) (i := 6) (pc := 17) dX7_refuse_17 rfl pf_7_31 rfl s0_70 rfl rfl nf_70_6 rfl ?_
                  refine fr_aload_n (pc := 20) dX7_refuse_20 rfl rfl ?_
                  refine fr_iconst (pc := 21) dX7_refuse_21 (by decide) ?_
                  refine fr_put (a := 70) (i := 4) (pc := 22) dX7_refuse_22 rfl pf_7_40 rfl s0_70 rfl rfl nf_70_4 rfl ?_
                  refine fr_vret (pc := 25) dX7_refuse_25 rfl ?_
                  exact fr_vret (pc := 184) dX7_advance_184 rfl hq
                · refine fr_vret (pc := 25) dX7_refuse_25 rfl ?_
                  exact fr_vret (pc := 184) dX7_advance_184 rfl hq
              · exact fr_vret (pc := 184) dX7_advance_184 rfl hq
            · refine fr_iload_n (pc := 4) dX7_byteAt_4 rfl rfl ?_
              refine fr_aload_n (pc := 5) dX7_byteAt_5 rfl rfl ?_
              refine fr_getf (a := 70) (i := 1) (v := gI M 70 1) (t := 0) (pc := 6) dX7_byteAt_6 rfl pf_7_24 rfl s0_70 rfl ((gI_nf _ _ (by decide)).trans (gI_nf _ _ (by decide))) ?_
              refine fr_icm_ge (tg := 25) (pc := 9) dX7_byteAt_9 rfl hq (fun hc115 hq => ?_) (fun hc115 hq => ?_)
              · refine fr_aload_n (pc := 12) dX7_byteAt_12 rfl rfl ?_
                refine fr_getr (a := 70) (pc := 13) dX7_byteAt_13 rfl pf_7_9 s0_70 rfl rf_70_0 ?_
                refine fr_iload_n (pc := 16) dX7_byteAt_16 rfl rfl ?_
                obtain ⟨hb116, hq⟩ := hq
                refine fr_baload (a := 1) (v := gI M 1 (w32 ((gI M 70 2) + 1))) (pc := 17) dX7_byteAt_17 rfl s0_1 hb116 (Or.inl rfl) ((gI_ne _ _ _ _ (by decide)).trans (gI_ne _ _ _ _ (by decide))) ?_
                refine fr_sipush (pc := 18) dX7_byteAt_18 (by decide) ?_
                refine fr_iand (z := pm_iand (gI M 1 (w32 ((gI M 70 2) + 1))) 255) (pc := 21) dX7_byteAt_21 rfl ?_
                refine fr_goto (tg := 26) (pc := 22) dX7_byteAt_22 rfl ?_
                refine fr_iret (pc := 26) dX7_byteAt_26 (Or.inl rfl) ?_
                refine fr_bipush (pc := 151) dX7_advance_151 (by decide) ?_
                refine fr_icm_ne (tg := 163) (pc := 153) dX7_advance_153 rfl hq (fun hc117 hq => ?_) (fun hc117 hq => ?_)
                · refine fr_iload_n (pc := 156) dX7_advance_156 rfl rfl ?_
                  refine fr_inSI (as := [(0, pm_iand (gI M 1 (gI M 70 2)) 255)]) (rest := [(0, pm_iand (gI M 1 (gI M 70 2)) 255), (2, 70)]) (ls' := [(0, pm_iand (gI M 1 (gI M 70 2)) 255)]) (c1 := 0) (c2 := 0) (pc := 157) dX7_advance_157 pl_7_56 rfl ⟨Nat.le_of_ble_eq_true rfl, Nat.le_of_ble_eq_true rfl⟩ rfl rfl  (by omega) rfl rfl (pm_zc _) (hq sc _ (by omega)) (fun r119 M118 hq => ?_)
                  refine fr_goto (tg := 164) (pc := 160) dX7_advance_160 rfl ?_
                  refine fr_iload_n (pc := 164) dX7_advance_164 rfl rfl ?_
                  refine fr_inSI (as := [(0, pm_iand (gI M 1 (gI M 70 2)) 255)]) (rest := [(0, r119), (0, pm_iand (gI M 1 (gI M 70 2)) 255), (2, 70)]) (ls' := [(0, pm_iand (gI M 1 (gI M 70 2)) 255)]) (c1 := 0) (c2 := 0) (pc := 165) dX7_advance_165 pl_7_59 rfl ⟨Nat.le_of_ble_eq_true rfl, Nat.le_of_ble_eq_true rfl⟩ rfl rfl  (by omega) rfl rfl (pm_zc _) (hq sc _ (by omega)) (fun r121 M120 hq => ?_)
                  refine fr_inVV (a := 70) (as := [(0, pm_iand (gI M 1 (gI M 70 2)) 255), (0, r119), (0, r121)]) (rest := []) (ls' := [(2, 70), (0, pm_iand (gI M 1 (gI M 70 2)) 255), (0, r119), (0, r121), (9, 0)]) (c1 := 0) (c2 := 0) (pc := 168) dX7_advance_168 pl_7_62 rfl ⟨Nat.le_of_ble_eq_true rfl, Nat.le_of_ble_eq_true rfl⟩ rfl rfl rfl s0_70 (Nat.le_of_ble_eq_true rfl) (by omega) rfl rfl (pm_zc _) (hq sc _ (by omega)) (fun M122 hq => ?_)
                  refine fr_aload_n (pc := 171) dX7_advance_171 rfl rfl ?_
                  refine fr_getf (a := 70) (i := 4) (v := gI M122 70 4) (t := 0) (pc := 172) dX7_advance_172 rfl pf_7_40 rfl s0_70 rfl rfl ?_
                  refine fr_iconst (pc := 175) dX7_advance_175 (by decide) ?_
                  refine fr_icm_ne (tg := 184) (pc := 176) dX7_advance_176 rfl hq (fun hc124 hq => ?_) (fun hc124 hq => ?_)
                  · refine fr_aload_n (pc := 179) dX7_advance_179 rfl rfl ?_
                    refine fr_iconst (pc := 180) dX7_advance_180 (by decide) ?_
                    refine fr_inVV (a := 70) (as := [(0, 1)]) (rest := []) (ls' := [(2, 70), (0, 1)]) (c1 := 0) (c2 := 0) (pc := 181) dX7_advance_181 pl_7_66 rfl ⟨Nat.le_of_ble_eq_true rfl, Nat.le_of_ble_eq_true rfl⟩ rfl rfl rfl s0_70 (Nat.le_of_ble_eq_true rfl) (by omega) rfl rfl (pm_zc _) ?_ (fun M' h => h)
                    refine fr_aload_n (pc := 0) dX7_refuse_0 rfl rfl ?_
                    refine fr_getf (a := 70) (i := 6) (v := gI M122 70 6) (t := 0) (pc := 1) dX7_refuse_1 rfl pf_7_31 rfl s0_70 rfl rfl ?_
                    refine fr_ifc_ne (tg := 25) (pc := 4) dX7_refuse_4 rfl hq (fun hc125 hq => ?_) (fun hc125 hq => ?_)
                    · refine fr_aload_n (pc := 7) dX7_refuse_7 rfl rfl ?_
                      refine fr_bipush (pc := 8) dX7_refuse_8 (by decide) ?_
                      refine fr_aload_n (pc := 10) dX7_refuse_10 rfl rfl ?_
                      refine fr_getf (a := 70) (i := 3) (v := gI M122 70 3) (t := 0) (pc := 11) dX7_refuse_11 rfl pf_7_37 rfl s0_70 rfl rfl ?_
                      refine fr_imul (z := w32 (8 * (gI M122 70 3))) (pc := 14) dX7_refuse_14 rfl ?_
                      refine fr_iload_n (pc := 15) dX7_refuse_15 rfl rfl ?_
                      refine fr_iadd (z := w32 ((w32 (8 * (gI M122 70 3))) + 1)) (pc := 16) dX7_refuse_16 rfl ?_
                      refine fr_put (a := 70) (i := 6) (pc := 17) dX7_refuse_17 rfl pf_7_31 rfl s0_70 rfl rfl nf_70_6 rfl ?_
                      refine fr_aload_n (pc := 20) dX7_refuse_20 rfl rfl ?_
                      refine fr_iconst (pc := 21) dX7_refuse_21 (by decide) ?_
                      refine fr_put (a := 70) (i := 4) (pc := 22) dX7_refuse_22 rfl pf_7_40 rfl s0_70 rfl rfl nf_70_4 rfl ?_
                      refine fr_vret (pc := 25) dX7_refuse_25 rfl ?_
                      exact fr_vret (pc := 184) dX7_advance_184 rfl hq
                    · refine fr_vret (pc := 25) dX7_refuse_25 rfl ?_
                      exact fr_vret (pc := 184) dX7_advance_184 rfl hq
                  · exact fr_vret (pc := 184) dX7_advance_184 rfl hq
                · refine fr_iconst (pc := 163) dX7_advance_163 (by decide) ?_
                  refine fr_iload_n (pc := 164) dX7_advance_164 rfl rfl ?_
                  refine fr_inSI (as := [(0, pm_iand (gI M 1 (gI M 70 2)) 255)]) (rest := [(0, (-1)), (0, pm_iand (gI M 1 (gI M 70 2)) 255), (2, 70)]) (ls' := [(0, pm_iand (gI M 1 (gI M 70 2)) 255)]) (c1 := 0) (c2 := 0) (pc := 165) dX7_advance_165 pl_7_59 rfl ⟨Nat.le_of_ble_eq_true rfl, Nat.le_of_ble_eq_true rfl⟩ rfl rfl  (by omega) rfl rfl (pm_zc _) (hq sc _ (by omega)) (fun r127 M126 hq => ?_)
                  refine fr_inVV (a := 70) (as := [(0, pm_iand (gI M 1 (gI M 70 2)) 255), (0, (-1)), (0, r127)]) (rest := []) (ls' := [(2, 70), (0, pm_iand (gI M 1 (gI M 70 2)) 255), (0, (-1)), (0, r127), (9, 0)]) (c1 := 0) (c2 := 0) (pc := 168) dX7_advance_168 pl_7_62 rfl ⟨Nat.le_of_ble_eq_true rfl, Nat.le_of_ble_eq_true rfl⟩ rfl rfl rfl s0_70 (Nat.le_of_ble_eq_true rfl) (by omega) rfl rfl (pm_zc _) (hq sc _ (by omega)) (fun M128 hq => ?_)
                  refine fr_aload_n (pc := 171) dX7_advance_171 rfl rfl ?_
                  refine fr_getf (a := 70) (i := 4) (v := gI M128 70 4) (t := 0) (pc := 172) dX7_advance_172 rfl pf_7_40 rfl s0_70 rfl rfl ?_
                  refine fr_iconst (pc := 175) dX7_advance_175 (by decide) ?_
                  refine fr_icm_ne (tg := 184) (pc := 176) dX7_advance_176 rfl hq (fun hc130 hq => ?_) (fun hc130 hq => ?_)
                  · refine fr_aload_n (pc := 179) dX7_advance_179 rfl rfl ?_
                    refine fr_iconst (pc := 180) dX7_advance_180 (by decide) ?_
                    refine fr_inVV (a := 70) (as := [(0, 1)]) (rest := []) (ls' := [(2, 70), (0, 1)]) (c1 := 0) (c2 := 0) (pc := 181) dX7_advance_181 pl_7_66 rfl ⟨Nat.le_of_ble_eq_true rfl, Nat.le_of_ble_eq_true rfl⟩ rfl rfl rfl s0_70 (Nat.le_of_ble_eq_true rfl) (by omega) rfl rfl (pm_zc _) ?_ (fun M' h => h)
                    refine fr_aload_n (pc := 0) dX7_refuse_0 rfl rfl ?_
                    refine fr_getf (a := 70) (i := 6) (v := gI M128 70 6) (t := 0) (pc := 1) dX7_refuse_1 rfl pf_7_31 rfl s0_70 rfl rfl ?_
                    refine fr_ifc_ne (tg := 25) (pc := 4) dX7_refuse_4 rfl hq (fun hc131 hq => ?_) (fun hc131 hq => ?_)
                    · refine fr_aload_n (pc := 7) dX7_refuse_7 rfl rfl ?_
                      refine fr_bipush (pc := 8) dX7_refuse_8 (by decide) ?_
                      refine fr_aload_n (pc := 10) dX7_refuse_10 rfl rfl ?_
                      refine fr_getf (a := 70) (i := 3) (v := gI M128 70 3) (t := 0) (pc := 11) dX7_refuse_11 rfl pf_7_37 rfl s0_70 rfl rfl ?_
                      refine fr_imul (z := w32 (8 * (gI M128 70 3))) (pc := 14) dX7_refuse_14 rfl ?_
                      refine fr_iload_n (pc := 15) dX7_refuse_15 rfl rfl ?_
                      refine fr_iadd (z := w32 ((w32 (8 * (gI M128 70 3))) + 1)) (pc := 16) dX7_refuse_16 rfl ?_
                      refine fr_put (a := 70) (i := 6) (pc := 17) dX7_refuse_17 rfl pf_7_31 rfl s0_70 rfl rfl nf_70_6 rfl ?_
                      refine fr_aload_n (pc := 20) dX7_refuse_20 rfl rfl ?_
                      refine fr_iconst (pc := 21) dX7_refuse_21 (by decide) ?_
                      refine fr_put (a := 70) (i := 4) (pc := 22) dX7_refuse_22 rfl pf_7_40 rfl s0_70 rfl rfl nf_70_4 rfl ?_
                      refine fr_vret (pc := 25) dX7_refuse_25 rfl ?_
                      exact fr_vret (pc := 184) dX7_advance_184 rfl hq
                    · refine fr_vret (pc := 25) dX7_refuse_25 rfl ?_
                      exact fr_vret (pc := 184) dX7_advance_184 rfl hq
                  · exact fr_vret (pc := 184) dX7_advance_184 rfl hq
              · refine fr_iconst (pc := 25) dX7_byteAt_25 (by decide) ?_
                refine fr_iret (pc := 26) dX7_byteAt_26 (Or.inl rfl) ?_
                refine fr_bipush (pc := 151) dX7_advance_151 (by decide) ?_
                refine fr_icmT (tg := 163) (pc := 153) dX7_advance_153 rfl rfl ?_
                refine fr_iconst (pc := 163) dX7_advance_163 (by decide) ?_
                refine fr_iload_n (pc := 164) dX7_advance_164 rfl rfl ?_
                refine fr_inSI (as := [(0, pm_iand (gI M 1 (gI M 70 2)) 255)]) (rest := [(0, (-1)), (0, pm_iand (gI M 1 (gI M 70 2)) 255), (2, 70)]) (ls' := [(0, pm_iand (gI M 1 (gI M 70 2)) 255)]) (c1 := 0) (c2 := 0) (pc := 165) dX7_advance_165 pl_7_59 rfl ⟨Nat.le_of_ble_eq_true rfl, Nat.le_of_ble_eq_true rfl⟩ rfl rfl  (by omega) rfl rfl (pm_zc _) (hq sc _ (by omega)) (fun r133 M132 hq => ?_)
                refine fr_inVV (a := 70) (as := [(0, pm_iand (gI M 1 (gI M 70 2)) 255), (0, (-1)), (0, r133)]) (rest := []) (ls' := [(2, 70), (0, pm_iand (gI M 1 (gI M 70 2)) 255), (0, (-1)), (0, r133), (9, 0)]) (c1 := 0) (c2 := 0) (pc := 168) dX7_advance_168 pl_7_62 rfl ⟨Nat.le_of_ble_eq_true rfl, Nat.le_of_ble_eq_true rfl⟩ rfl rfl rfl s0_70 (Nat.le_of_ble_eq_true rfl) (by omega) rfl rfl (pm_zc _) (hq sc _ (by omega)) (fun M134 hq => ?_)
                refine fr_aload_n (pc := 171) dX7_advance_171 rfl rfl ?_
                refine fr_getf (a := 70) (i := 4) (v := gI M134 70 4) (t := 0) (pc := 172) dX7_advance_172 rfl pf_7_40 rfl s0_70 rfl rfl ?_
                refine fr_iconst (pc := 175) dX7_advance_175 (by decide) ?_
                refine fr_icm_ne (tg := 184) (pc := 176) dX7_advance_176 rfl hq (fun hc136 hq => ?_) (fun hc136 hq => ?_)
                · refine fr_aload_n (pc := 179) dX7_advance_179 rfl rfl ?_
                  refine fr_iconst (pc := 180) dX7_advance_180 (by decide) ?_
                  refine fr_inVV (a := 70) (as := [(0, 1)]) (rest := []) (ls' := [(2, 70), (0, 1)]) (c1 := 0) (c2 := 0) (pc := 181) dX7_advance_181 pl_7_66 rfl ⟨Nat.le_of_ble_eq_true rfl, Nat.le_of_ble_eq_true rfl⟩ rfl rfl rfl s0_70 (Nat.le_of_ble_eq_true rfl) (by omega) rfl rfl (pm_zc _) ?_ (fun M' h => h)
                  refine fr_aload_n (pc := 0) dX7_refuse_0 rfl rfl ?_
                  refine fr_getf (a := 70) (i := 6) (v := gI M134 70 6) (t := 0) (pc := 1) dX7_refuse_1 rfl pf_7_31 rfl s0_70 rfl rfl ?_
                  refine fr_ifc_ne (tg := 25) (pc := 4) dX7_refuse_4 rfl hq (fun hc137 hq => ?_) (fun hc137 hq => ?_)
                  · refine fr_aload_n (pc := 7) dX7_refuse_7 rfl rfl ?_
                    refine fr_bipush (pc := 8) dX7_refuse_8 (by decide) ?_
                    refine fr_aload_n (pc := 10) dX7_refuse_10 rfl rfl ?_
                    refine fr_getf (a := 70) (i := 3) (v := gI M134 70 3) (t := 0) (pc := 11) dX7_refuse_11 rfl pf_7_37 rfl s0_70 rfl rfl ?_
                    refine fr_imul (z := w32 (8 * (gI M134 70 3))) (pc := 14) dX7_refuse_14 rfl ?_
                    refine fr_iload_n (pc := 15) dX7_refuse_15 rfl rfl ?_
                    refine fr_iadd (z := w32 ((w32 (8 * (gI M134 70 3))) + 1)) (pc := 16) dX7_refuse_16 rfl ?_
                    refine fr_put (a := 70) (i := 6) (pc := 17) dX7_refuse_17 rfl pf_7_31 rfl s0_70 rfl rfl nf_70_6 rfl ?_
                    refine fr_aload_n (pc := 20) dX7_refuse_20 rfl rfl ?_
                    refine fr_iconst (pc := 21) dX7_refuse_21 (by decide) ?_
                    refine fr_put (a := 70) (i := 4) (pc := 22) dX7_refuse_22 rfl pf_7_40 rfl s0_70 rfl rfl nf_70_4 rfl ?_
                    refine fr_vret (pc := 25) dX7_refuse_25 rfl ?_
                    exact fr_vret (pc := 184) dX7_advance_184 rfl hq
                  · refine fr_vret (pc := 25) dX7_refuse_25 rfl ?_
                    exact fr_vret (pc := 184) dX7_advance_184 rfl hq
                · exact fr_vret (pc := 184) dX7_advance_184 rfl hq
          · refine fr_iload_n (pc := 126) dX7_advance_126 rfl rfl ?_
            refine fr_bipush (pc := 127) dX7_advance_127 (by decide) ?_
            refine fr_icm_gt (tg := 139) (pc := 129) dX7_advance_129 rfl hq (fun hc138 hq => ?_) (fun hc138 hq => ?_)
            · refine fr_aload_n (pc := 132) dX7_advance_132 rfl rfl ?_
              refine fr_inVV (a := 70) (as := []) (rest := []) (ls' := [(2, 70)]) (c1 := 0) (c2 := 0) (pc := 133) dX7_advance_133 pl_7_53 rfl ⟨Nat.le_of_ble_eq_true rfl, Nat.le_of_ble_eq_true rfl⟩ rfl rfl rfl s0_70 (Nat.le_of_ble_eq_true rfl) (by omega) rfl rfl (pm_zc _) (hq sc _ (by omega)) (fun M139 hq => ?_)
              refine fr_goto (tg := 171) (pc := 136) dX7_advance_136 rfl ?_
              refine fr_aload_n (pc := 171) dX7_advance_171 rfl rfl ?_
              refine fr_getf (a := 70) (i := 4) (v := gI M139 70 4) (t := 0) (pc := 172) dX7_advance_172 rfl pf_7_40 rfl s0_70 rfl rfl ?_
              refine fr_iconst (pc := 175) dX7_advance_175 (by decide) ?_
              refine fr_icm_ne (tg := 184) (pc := 176) dX7_advance_176 rfl hq (fun hc141 hq => ?_) (fun hc141 hq => ?_)
              · refine fr_aload_n (pc := 179) dX7_advance_179 rfl rfl ?_
                refine fr_iconst (pc := 180) dX7_advance_180 (by decide) ?_
                refine fr_inVV (a := 70) (as := [(0, 1)]) (rest := []) (ls' := [(2, 70), (0, 1)]) (c1 := 0) (c2 := 0) (pc := 181) dX7_advance_181 pl_7_66 rfl ⟨Nat.le_of_ble_eq_true rfl, Nat.le_of_ble_eq_true rfl⟩ rfl rfl rfl s0_70 (Nat.le_of_ble_eq_true rfl) (by omega) rfl rfl (pm_zc _) ?_ (fun M' h => h)
                refine fr_aload_n (pc := 0) dX7_refuse_0 rfl rfl ?_
                refine fr_getf (a := 70) (i := 6) (v := gI M139 70 6) (t := 0) (pc := 1) dX7_refuse_1 rfl pf_7_31 rfl s0_70 rfl rfl ?_
                refine fr_ifc_ne (tg := 25) (pc := 4) dX7_refuse_4 rfl hq (fun hc142 hq => ?_) (fun hc142 hq => ?_)
                · refine fr_aload_n (pc := 7) dX7_refuse_7 rfl rfl ?_
                  refine fr_bipush (pc := 8) dX7_refuse_8 (by decide) ?_
                  refine fr_aload_n (pc := 10) dX7_refuse_10 rfl rfl ?_
                  refine fr_getf (a := 70) (i := 3) (v := gI M139 70 3) (t := 0) (pc := 11) dX7_refuse_11 rfl pf_7_37 rfl s0_70 rfl rfl ?_
                  refine fr_imul (z := w32 (8 * (gI M139 70 3))) (pc := 14) dX7_refuse_14 rfl ?_
                  refine fr_iload_n (pc := 15) dX7_refuse_15 rfl rfl ?_
                  refine fr_iadd (z := w32 ((w32 (8 * (gI M139 70 3))) + 1)) (pc := 16) dX7_refuse_16 rfl ?_
                  refine fr_put (a := 70) (i := 6) (pc := 17) dX7_refuse_17 rfl pf_7_31 rfl s0_70 rfl rfl nf_70_6 rfl ?_
                  refine fr_aload_n (pc := 20) dX7_refuse_20 rfl rfl ?_
                  refine fr_iconst (pc := 21) dX7_refuse_21 (by decide) ?_
                  refine fr_put (a := 70) (i := 4) (pc := 22) dX7_refuse_22 rfl pf_7_40 rfl s0_70 rfl rfl nf_70_4 rfl ?_
                  refine fr_vret (pc := 25) dX7_refuse_25 rfl ?_
                  exact fr_vret (pc := 184) dX7_advance_184 rfl hq
                · refine fr_vret (pc := 25) dX7_refuse_25 rfl ?_
                  exact fr_vret (pc := 184) dX7_advance_184 rfl hq
              · exact fr_vret (pc := 184) dX7_advance_184 rfl hq
            · refine fr_aload_n (pc := 139) dX7_advance_139 rfl rfl ?_
              refine fr_iload_n (pc := 140) dX7_advance_140 rfl rfl ?_
              refine fr_aload_n (pc := 141) dX7_advance_141 rfl rfl ?_
              refine fr_aload_n (pc := 142) dX7_advance_142 rfl rfl ?_
              refine fr_getf (a := 70) (i := 2) (v := gI M 70 2) (t := 0) (pc := 143) dX7_advance_143 rfl pf_7_28 rfl s0_70 rfl ((gI_nf _ _ (by decide)).trans (gI_nf _ _ (by decide))) ?_
              refine fr_iconst (pc := 146) dX7_advance_146 (by decide) ?_
              refine fr_iadd (z := w32 ((gI M 70 2) + 1)) (pc := 147) dX7_advance_147 rfl ?_
              refine fr_inVI (a := 70) (as := [(0, w32 ((gI M 70 2) + 1))]) (rest := [(0, pm_iand (gI M 1 (gI M 70 2)) 255), (2, 70)]) (ls' := [(2, 70), (0, w32 ((gI M 70 2) + 1))]) (c1 := 0) (c2 := 0) (pc := 148) dX7_advance_148 pl_7_46 rfl ⟨Nat.le_of_ble_eq_true rfl, Nat.le_of_ble_eq_true rfl⟩ rfl rfl rfl s0_70 (Nat.le_of_ble_eq_true rfl) (by omega) rfl rfl (pm_zc _) ?_ (fun y M' h => h)
              refine fr_iload_n (pc := 0) dX7_byteAt_0 rfl rfl ?_
              refine fr_ifc_lt (tg := 25) (pc := 1) dX7_byteAt_1 rfl hq (fun hc143 hq => ?_) (fun hc143 hq => ?_)
              · refine fr_iconst (pc := 25) dX7_byteAt_25 (by decide) ?_
                refine fr_iret (pc := 26) dX7_byteAt_26 (Or.inl rfl) ?_
                refine fr_bipush (pc := 151) dX7_advance_151 (by decide) ?_
                refine fr_icmT (tg := 163) (pc := 153) dX7_advance_153 rfl rfl ?_
                refine fr_iconst (pc := 163) dX7_advance_163 (by decide) ?_
                refine fr_iload_n (pc := 164) dX7_advance_164 rfl rfl ?_
                refine fr_inSI (as := [(0, pm_iand (gI M 1 (gI M 70 2)) 255)]) (rest := [(0, (-1)), (0, pm_iand (gI M 1 (gI M 70 2)) 255), (2, 70)]) (ls' := [(0, pm_iand (gI M 1 (gI M 70 2)) 255)]) (c1 := 0) (c2 := 0) (pc := 165) dX7_advance_165 pl_7_59 rfl ⟨Nat.le_of_ble_eq_true rfl, Nat.le_of_ble_eq_true rfl⟩ rfl rfl  (by omega) rfl rfl (pm_zc _) (hq sc _ (by omega)) (fun r145 M144 hq => ?_)
                refine fr_inVV (a := 70) (as := [(0, pm_iand (gI M 1 (gI M 70 2)) 255), (0, (-1)), (0, r145)]) (rest := []) (ls' := [(2, 70), (0, pm_iand (gI M 1 (gI M 70 2)) 255), (0, (-1)), (0, r145), (9, 0)]) (c1 := 0) (c2 := 0) (pc := 168) dX7_advance_168 pl_7_62 rfl ⟨Nat.le_of_ble_eq_true rfl, Nat.le_of_ble_eq_true rfl⟩ rfl rfl rfl s0_70 (Nat.le_of_ble_eq_true rfl) (by omega) rfl rfl (pm_zc _) (hq sc _ (by omega)) (fun M146 hq => ?_)
                refine fr_aload_n (pc := 171) dX7_advance_171 rfl rfl ?_
                refine fr_getf (a := 70) (i := 4) (v := gI M146 70 4) (t := 0) (pc := 172) dX7_advance_172 rfl pf_7_40 rfl s0_70 rfl rfl ?_
                refine fr_iconst (pc := 175) dX7_advance_175 (by decide) ?_
                refine fr_icm_ne (tg := 184) (pc := 176) dX7_advance_176 rfl hq (fun hc148 hq => ?_) (fun hc148 hq => ?_)
                · refine fr_aload_n (pc := 179) dX7_advance_179 rfl rfl ?_
                  refine fr_iconst (pc := 180) dX7_advance_180 (by decide) ?_
                  refine fr_inVV (a := 70) (as := [(0, 1)]) (rest := []) (ls' := [(2, 70), (0, 1)]) (c1 := 0) (c2 := 0) (pc := 181) dX7_advance_181 pl_7_66 rfl ⟨Nat.le_of_ble_eq_true rfl, Nat.le_of_ble_eq_true rfl⟩ rfl rfl rfl s0_70 (Nat.le_of_ble_eq_true rfl) (by omega) rfl rfl (pm_zc _) ?_ (fun M' h => h)
                  refine fr_aload_n (pc := 0) dX7_refuse_0 rfl rfl ?_
                  refine fr_getf (a := 70) (i := 6) (v := gI M146 70 6) (t := 0) (pc := 1) dX7_refuse_1 rfl pf_7_31 rfl s0_70 rfl rfl ?_
                  refine fr_ifc_ne (tg := 25) (pc := 4) dX7_refuse_4 rfl hq (fun hc149 hq => ?_) (fun hc149 hq => ?_)
                  · refine fr_aload_n (pc := 7) dX7_refuse_7 rfl rfl ?_
                    refine fr_bipush (pc := 8) dX7_refuse_8 (by decide) ?_
                    refine fr_aload_n (pc := 10) dX7_refuse_10 rfl rfl ?_
                    refine fr_getf (a := 70) (i := 3) (v := gI M146 70 3) (t := 0) (pc := 11) dX7_refuse_11 rfl pf_7_37 rfl s0_70 rfl rfl ?_
                    refine fr_imul (z := w32 (8 * (gI M146 70 3))) (pc := 14) dX7_refuse_14 rfl ?_
                    refine fr_iload_n (pc := 15) dX7_refuse_15 rfl rfl ?_
                    refine fr_iadd (z := w32 ((w32 (8 * (gI M146 70 3))) + 1)) (pc := 16) dX7_refuse_16 rfl ?_
                    refine fr_put (a := 70) (i := 6) (pc := 17) dX7_refuse_17 rfl pf_7_31 rfl s0_70 rfl rfl nf_70_6 rfl ?_
                    refine fr_aload_n (pc := 20) dX7_refuse_20 rfl rfl ?_
                    refine fr_iconst (pc := 21) dX7_refuse_21 (by decide) ?_
                    refine fr_put (a := 70) (i := 4) (pc := 22) dX7_refuse_22 rfl pf_7_40 rfl s0_70 rfl rfl nf_70_4 rfl ?_
                    refine fr_vret (pc := 25) dX7_refuse_25 rfl ?_
                    exact fr_vret (pc := 184) dX7_advance_184 rfl hq
                  · refine fr_vret (pc := 25) dX7_refuse_25 rfl ?_
                    exact fr_vret (pc := 184) dX7_advance_184 rfl hq
                · exact fr_vret (pc := 184) dX7_advance_184 rfl hq
              · refine fr_iload_n (pc := 4) dX7_byteAt_4 rfl rfl ?_
                refine fr_aload_n (pc := 5) dX7_byteAt_5 rfl rfl ?_
                refine fr_getf (a := 70) (i := 1) (v := gI M 70 1) (t := 0) (pc := 6) dX7_byteAt_6 rfl pf_7_24 rfl s0_70 rfl ((gI_nf _ _ (by decide)).trans (gI_nf _ _ (by decide))) ?_
                refine fr_icm_ge (tg := 25) (pc := 9) dX7_byteAt_9 rfl hq (fun hc150 hq => ?_) (fun hc150 hq => ?_)
                · refine fr_aload_n (pc := 12) dX7_byteAt_12 rfl rfl ?_
                  refine fr_getr (a := 70) (pc := 13) dX7_byteAt_13 rfl pf_7_9 s0_70 rfl rf_70_0 ?_
                  refine fr_iload_n (pc := 16) dX7_byteAt_16 rfl rfl ?_
                  obtain ⟨hb151, hq⟩ := hq
                  refine fr_baload (a := 1) (v := gI M 1 (w32 ((gI M 70 2) + 1))) (pc := 17) dX7_byteAt_17 rfl s0_1 hb151 (Or.inl rfl) ((gI_ne _ _ _ _ (by decide)).trans (gI_ne _ _ _ _ (by decide))) ?_
                  refine fr_sipush (pc := 18) dX7_byteAt_18 (by decide) ?_
                  refine fr_iand (z := pm_iand (gI M 1 (w32 ((gI M 70 2) + 1))) 255) (pc := 21) dX7_byteAt_21 rfl ?_
                  refine fr_goto (tg := 26) (pc := 22) dX7_byteAt_22 rfl ?_
                  refine fr_iret (pc := 26) dX7_byteAt_26 (Or.inl rfl) ?_
                  refine fr_bipush (pc := 151) dX7_advance_151 (by decide) ?_
                  refine fr_icm_ne (tg := 163) (pc := 153) dX7_advance_153 rfl hq (fun hc152 hq => ?_) (fun hc152 hq => ?_)
                  · refine fr_iload_n (pc := 156) dX7_advance_156 rfl rfl ?_
                    refine fr_inSI (as := [(0, pm_iand (gI M 1 (gI M 70 2)) 255)]) (rest := [(0, pm_iand (gI M 1 (gI M 70 2)) 255), (2, 70)]) (ls' := [(0, pm_iand (gI M 1 (gI M 70 2)) 255)]) (c1 := 0) (c2 := 0) (pc := 157) dX7_advance_157 pl_7_56 rfl ⟨Nat.le_of_ble_eq_true rfl, Nat.le_of_ble_eq_true rfl⟩ rfl rfl  (by omega) rfl rfl (pm_zc _) (hq sc _ (by omega)) (fun r154 M153 hq => ?_)
                    refine fr_goto (tg := 164) (pc := 160) dX7_advance_160 rfl ?_
                    refine fr_iload_n (pc := 164) dX7_advance_164 rfl rfl ?_
                    refine fr_inSI (as := [(0, pm_iand (gI M 1 (gI M 70 2)) 255)]) (rest := [(0, r154), (0, pm_iand (gI M 1 (gI M 70 2)) 255), (2, 70)]) (ls' := [(0, pm_iand (gI M 1 (gI M 70 2)) 255)]) (c1 := 0) (c2 := 0) (pc := 165) dX7_advance_165 pl_7_59 rfl ⟨Nat.le_of_ble_eq_true rfl, Nat.le_of_ble_eq_true rfl⟩ rfl rfl  (by omega) rfl rfl (pm_zc _) (hq sc _ (by omega)) (fun r156 M155 hq => ?_)
                    refine fr_inVV (a := 70) (as := [(0, pm_iand (gI M 1 (gI M 70 2)) 255), (0, r154), (0, r156)]) (rest := []) (ls' := [(2, 70), (0, pm_iand (gI M 1 (gI M 70 2)) 255), (0, r154), (0, r156), (9, 0)]) (c1 := 0) (c2 := 0) (pc := 168) dX7_advance_168 pl_7_62 rfl ⟨Nat.le_of_ble_eq_true rfl, Nat.le_of_ble_eq_true rfl⟩ rfl rfl rfl s0_70 (Nat.le_of_ble_eq_true rfl) (by omega) rfl rfl (pm_zc _) (hq sc _ (by omega)) (fun M157 hq => ?_)
                    refine fr_aload_n (pc := 171) dX7_advance_171 rfl rfl ?_
                    refine fr_getf (a := 70) (i := 4) (v := gI M157 70 4) (t := 0) (pc := 172) dX7_advance_172 rfl pf_7_40 rfl s0_70 rfl rfl ?_
                    refine fr_iconst (pc := 175) dX7_advance_175 (by decide) ?_
                    refine fr_icm_ne (tg := 184) (pc := 176) dX7_advance_176 rfl hq (fun hc159 hq => ?_) (fun hc159 hq => ?_)
                    · refine fr_aload_n (pc := 179) dX7_advance_179 rfl rfl ?_
                      refine fr_iconst (pc := 180) dX7_advance_180 (by decide) ?_
                      refine fr_inVV (a := 70) (as := [(0, 1)]) (rest := []) (ls' := [(2, 70), (0, 1)]) (c1 := 0) (c2 := 0) (pc := 181) dX7_advance_181 pl_7_66 rfl ⟨Nat.le_of_ble_eq_true rfl, Nat.le_of_ble_eq_true rfl⟩ rfl rfl rfl s0_70 (Nat.le_of_ble_eq_true rfl) (by omega) rfl rfl (pm_zc _) ?_ (fun M' h => h)
                      refine fr_aload_n (pc := 0) dX7_refuse_0 rfl rfl ?_
                      refine fr_getf (a := 70) (i := 6) (v := gI M157 70 6) (t := 0) (pc := 1) dX7_refuse_1 rfl pf_7_31 rfl s0_70 rfl rfl ?_
                      refine fr_ifc_ne (tg := 25) (pc := 4) dX7_refuse_4 rfl hq (fun hc160 hq => ?_) (fun hc160 hq => ?_)
                      · refine fr_aload_n (pc := 7) dX7_refuse_7 rfl rfl ?_
                        refine fr_bipush (pc := 8) dX7_refuse_8 (by decide) ?_
                        refine fr_aload_n (pc := 10) dX7_refuse_10 rfl rfl ?_
                        refine fr_getf (a := 70) (i := 3) (v := gI M157 70 3) (t := 0) (pc := 11) dX7_refuse_11 rfl pf_7_37 rfl s0_70 rfl rfl ?_
                        refine fr_imul (z := w32 (8 * (gI M157 70 3))) (pc := 14) dX7_refuse_14 rfl ?_
                        refine fr_iload_n (pc := 15) dX7_refuse_15 rfl rfl ?_
                        refine fr_iadd (z := w32 ((w32 (8 * (gI M157 70 3))) + 1)) (pc := 16) dX7_refuse_16 rfl ?_
                        refine fr_put (a := 70) (i := 6) (pc := 17) dX7_refuse_17 rfl pf_7_31 rfl s0_70 rfl rfl nf_70_6 rfl ?_
                        refine fr_aload_n (pc := 20) dX7_refuse_20 rfl rfl ?_
                        refine fr_iconst (pc := 21) dX7_refuse_21 (by decide) ?_
                        refine fr_put (a := 70) (i := 4) (pc := 22) dX7_refuse_22 rfl pf_7_40 rfl s0_70 rfl rfl nf_70_4 rfl ?_
                        refine fr_vret (pc := 25) dX7_refuse_25 rfl ?_
                        exact fr_vret (pc := 184) dX7_advance_184 rfl hq
                      · refine fr_vret (pc := 25) dX7_refuse_25 rfl ?_
                        exact fr_vret (pc := 184) dX7_advance_184 rfl hq
                    · exact fr_vret (pc := 184) dX7_advance_184 rfl hq
                  · refine fr_iconst (pc := 163) dX7_advance_163 (by decide) ?_
                    refine fr_iload_n (pc := 164) dX7_advance_164 rfl rfl ?_
                    refine fr_inSI (as := [(0, pm_iand (gI M 1 (gI M 70 2)) 255)]) (rest := [(0, (-1)), (0, pm_iand (gI M 1 (gI M 70 2)) 255), (2, 70)]) (ls' := [(0, pm_iand (gI M 1 (gI M 70 2)) 255)]) (c1 := 0) (c2 := 0) (pc := 165) dX7_advance_165 pl_7_59 rfl ⟨Nat.le_of_ble_eq_true rfl, Nat.le_of_ble_eq_true rfl⟩ rfl rfl  (by omega) rfl rfl (pm_zc _) (hq sc _ (by omega)) (fun r162 M161 hq => ?_)
                    refine fr_inVV (a := 70) (as := [(0, pm_iand (gI M 1 (gI M 70 2)) 255), (0, (-1)), (0, r162)]) (rest := []) (ls' := [(2, 70), (0, pm_iand (gI M 1 (gI M 70 2)) 255), (0, (-1)), (0, r162), (9, 0)]) (c1 := 0) (c2 := 0) (pc := 168) dX7_advance_168 pl_7_62 rfl ⟨Nat.le_of_ble_eq_true rfl, Nat.le_of_ble_eq_true rfl⟩ rfl rfl rfl s0_70 (Nat.le_of_ble_eq_true rfl) (by omega) rfl rfl (pm_zc _) (hq sc _ (by omega)) (fun M163 hq => ?_)
                    refine fr_aload_n (pc := 171) dX7_advance_171 rfl rfl ?_
                    refine fr_getf (a := 70) (i := 4) (v := gI M163 70 4) (t := 0) (pc := 172) dX7_advance_172 rfl pf_7_40 rfl s0_70 rfl rfl ?_
                    refine fr_iconst (pc := 175) dX7_advance_175 (by decide) ?_
                    refine fr_icm_ne (tg := 184) (pc := 176) dX7_advance_176 rfl hq (fun hc165 hq => ?_) (fun hc165 hq => ?_)
                    · refine fr_aload_n (pc := 179) dX7_advance_179 rfl rfl ?_
                      refine fr_iconst (pc := 180) dX7_advance_180 (by decide) ?_
                      refine fr_inVV (a := 70) (as := [(0, 1)]) (rest := []) (ls' := [(2, 70), (0, 1)]) (c1 := 0) (c2 := 0) (pc := 181) dX7_advance_181 pl_7_66 rfl ⟨Nat.le_of_ble_eq_true rfl, Nat.le_of_ble_eq_true rfl⟩ rfl rfl rfl s0_70 (Nat.le_of_ble_eq_true rfl) (by omega) rfl rfl (pm_zc _) ?_ (fun M' h => h)
                      refine fr_aload_n (pc := 0) dX7_refuse_0 rfl rfl ?_
                      refine fr_getf (a := 70) (i := 6) (v := gI M163 70 6) (t := 0) (pc := 1) dX7_refuse_1 rfl pf_7_31 rfl s0_70 rfl rfl ?_
                      refine fr_ifc_ne (tg := 25) (pc := 4) dX7_refuse_4 rfl hq (fun hc166 hq => ?_) (fun hc166 hq => ?_)
                      · refine fr_aload_n (pc := 7) dX7_refuse_7 rfl rfl ?_
                        refine fr_bipush (pc := 8) dX7_refuse_8 (by decide) ?_
                        refine fr_aload_n (pc := 10) dX7_refuse_10 rfl rfl ?_
                        refine fr_getf (a := 70) (i := 3) (v := gI M163 70 3) (t := 0) (pc := 11) dX7_refuse_11 rfl pf_7_37 rfl s0_70 rfl rfl ?_
                        refine fr_imul (z := w32 (8 * (gI M163 70 3))) (pc := 14) dX7_refuse_14 rfl ?_
                        refine fr_iload_n (pc := 15) dX7_refuse_15 rfl rfl ?_
                        refine fr_iadd (z := w32 ((w32 (8 * (gI M163 70 3))) + 1)) (pc := 16) dX7_refuse_16 rfl ?_
                        refine fr_put (a := 70) (i := 6) (pc := 17) dX7_refuse_17 rfl pf_7_31 rfl s0_70 rfl rfl nf_70_6 rfl ?_
                        refine fr_aload_n (pc := 20) dX7_refuse_20 rfl rfl ?_
                        refine fr_iconst (pc := 21) dX7_refuse_21 (by decide) ?_
                        refine fr_put (a := 70) (i := 4) (pc := 22) dX7_refuse_22 rfl pf_7_40 rfl s0_70 rfl rfl nf_70_4 rfl ?_
                        refine fr_vret (pc := 25) dX7_refuse_25 rfl ?_
                        exact fr_vret (pc := 184) dX7_advance_184 rfl hq
                      · refine fr_vret (pc := 25) dX7_refuse_25 rfl ?_
                        exact fr_vret (pc := 184) dX7_advance_184 rfl hq
                    · exact fr_vret (pc := 184) dX7_advance_184 rfl hq
                · refine fr_iconst (pc := 25) dX7_byteAt_25 (by decide) ?_
                  refine fr_iret (pc := 26) dX7_byteAt_26 (Or.inl rfl) ?_
                  refine fr_bipush (pc := 151) dX7_advance_151 (by decide) ?_
                  refine fr_icmT (tg := 163) (pc := 153) dX7_advance_153 rfl rfl ?_
                  refine fr_iconst (pc := 163) dX7_advance_163 (by decide) ?_
                  refine fr_iload_n (pc := 164) dX7_advance_164 rfl rfl ?_
                  refine fr_inSI (as := [(0, pm_iand (gI M 1 (gI M 70 2)) 255)]) (rest := [(0, (-1)), (0, pm_iand (gI M 1 (gI M 70 2)) 255), (2, 70)]) (ls' := [(0, pm_iand (gI M 1 (gI M 70 2)) 255)]) (c1 := 0) (c2 := 0) (pc := 165) dX7_advance_165 pl_7_59 rfl ⟨Nat.le_of_ble_eq_true rfl, Nat.le_of_ble_eq_true rfl⟩ rfl rfl  (by omega) rfl rfl (pm_zc _) (hq sc _ (by omega)) (fun r168 M167 hq => ?_)
                  refine fr_inVV (a := 70) (as := [(0, pm_iand (gI M 1 (gI M 70 2)) 255), (0, (-1)), (0, r168)]) (rest := []) (ls' := [(2, 70), (0, pm_iand (gI M 1 (gI M 70 2)) 255), (0, (-1)), (0, r168), (9, 0)]) (c1 := 0) (c2 := 0) (pc := 168) dX7_advance_168 pl_7_62 rfl ⟨Nat.le_of_ble_eq_true rfl, Nat.le_of_ble_eq_true rfl⟩ rfl rfl rfl s0_70 (Nat.le_of_ble_eq_true rfl) (by omega) rfl rfl (pm_zc _) (hq sc _ (by omega)) (fun M169 hq => ?_)
                  refine fr_aload_n (pc := 171) dX7_advance_171 rfl rfl ?_
                  refine fr_getf (a := 70) (i := 4) (v := gI M169 70 4) (t := 0) (pc := 172) dX7_advance_172 rfl pf_7_40 rfl s0_70 rfl rfl ?_
                  refine fr_iconst (pc := 175) dX7_advance_175 (by decide) ?_
                  refine fr_icm_ne (tg := 184) (pc := 176) dX7_advance_176 rfl hq (fun hc171 hq => ?_) (fun hc171 hq => ?_)
                  · refine fr_aload_n (pc := 179) dX7_advance_179 rfl rfl ?_
                    refine fr_iconst (pc := 180) dX7_advance_180 (by decide) ?_
                    refine fr_inVV (a := 70) (as := [(0, 1)]) (rest := []) (ls' := [(2, 70), (0, 1)]) (c1 := 0) (c2 := 0) (pc := 181) dX7_advance_181 pl_7_66 rfl ⟨Nat.le_of_ble_eq_true rfl, Nat.le_of_ble_eq_true rfl⟩ rfl rfl rfl s0_70 (Nat.le_of_ble_eq_true rfl) (by omega) rfl rfl (pm_zc _) ?_ (fun M' h => h)
                    refine fr_aload_n (pc := 0) dX7_refuse_0 rfl rfl ?_
                    refine fr_getf (a := 70) (i := 6) (v := gI M169 70 6) (t := 0) (pc := 1) dX7_refuse_1 rfl pf_7_31 rfl s0_70 rfl rfl ?_
                    refine fr_ifc_ne (tg := 25) (pc := 4) dX7_refuse_4 rfl hq (fun hc172 hq => ?_) (fun hc172 hq => ?_)
                    · refine fr_aload_n (pc := 7) dX7_refuse_7 rfl rfl ?_
                      refine fr_bipush (pc := 8) dX7_refuse_8 (by decide) ?_
                      refine fr_aload_n (pc := 10) dX7_refuse_10 rfl rfl ?_
                      refine fr_getf (a := 70) (i := 3) (v := gI M169 70 3) (t := 0) (pc := 11) dX7_refuse_11 rfl pf_7_37 rfl s0_70 rfl rfl ?_
                      refine fr_imul (z := w32 (8 * (gI M169 70 3))) (pc := 14) dX7_refuse_14 rfl ?_
                      refine fr_iload_n (pc := 15) dX7_refuse_15 rfl rfl ?_
                      refine fr_iadd (z := w32 ((w32 (8 * (gI M169 70 3))) + 1)) (pc := 16) dX7_refuse_16 rfl ?_
                      refine fr_put (a := 70) (i := 6) (pc := 17) dX7_refuse_17 rfl pf_7_31 rfl s0_70 rfl rfl nf_70_6 rfl ?_
                      refine fr_aload_n (pc := 20) dX7_refuse_20 rfl rfl ?_
                      refine fr_iconst (pc := 21) dX7_refuse_21 (by decide) ?_
                      refine fr_put (a := 70) (i := 4) (pc := 22) dX7_refuse_22 rfl pf_7_40 rfl s0_70 rfl rfl nf_70_4 rfl ?_
                      refine fr_vret (pc := 25) dX7_refuse_25 rfl ?_
                      exact fr_vret (pc := 184) dX7_advance_184 rfl hq
                    · refine fr_vret (pc := 25) dX7_refuse_25 rfl ?_
                      exact fr_vret (pc := 184) dX7_advance_184 rfl hq
                  · exact fr_vret (pc := 184) dX7_advance_184 rfl hq
    · refine fr_iconst (pc := 25) dX7_byteAt_25 (by decide) ?_
      refine fr_iret (pc := 26) dX7_byteAt_26 (Or.inl rfl) ?_
      refine fr_istore_n (ls2 := [(2, 70), (0, 0)]) (pc := 81) dX7_advance_81 rfl (Nat.le_of_ble_eq_true rfl) rfl ?_
      refine fr_aload_n (pc := 82) dX7_advance_82 rfl rfl ?_
      refine fr_getf (a := 70) (i := 2) (v := gI M 70 2) (t := 0) (pc := 83) dX7_advance_83 rfl pf_7_28 rfl s0_70 rfl ((gI_nf _ _ (by decide)).trans (gI_nf _ _ (by decide))) ?_
      refine fr_aload_n (pc := 86) dX7_advance_86 rfl rfl ?_
      refine fr_getf (a := 70) (i := 1) (v := gI M 70 1) (t := 0) (pc := 87) dX7_advance_87 rfl pf_7_24 rfl s0_70 rfl ((gI_nf _ _ (by decide)).trans (gI_nf _ _ (by decide))) ?_
      refine fr_icmF (tg := 101) (pc := 90) dX7_advance_90 (decide_eq_false hc33) rfl ?_
      refine fr_aload_n (pc := 93) dX7_advance_93 rfl rfl ?_
      refine fr_iconst (pc := 94) dX7_advance_94 (by decide) ?_
      refine fr_put (a := 70) (i := 4) (pc := 95) dX7_advance_95 rfl pf_7_40 rfl s0_70 rfl rfl nf_70_4 rfl ?_
      refine fr_goto (tg := 171) (pc := 98) dX7_advance_98 rfl ?_
      refine fr_aload_n (pc := 171) dX7_advance_171 rfl rfl ?_
      refine fr_getf (a := 70) (i := 4) (v := 0) (t := 0) (pc := 172) dX7_advance_172 rfl pf_7_40 rfl s0_70 rfl (gI_eq _ _ _ _) ?_
      refine fr_iconst (pc := 175) dX7_advance_175 (by decide) ?_
      refine fr_icmT (tg := 184) (pc := 176) dX7_advance_176 rfl rfl ?_
      exact fr_vret (pc := 184) dX7_advance_184 rfl hq
theorem k7_scanWord_r {M : pm_M} {K : pm_M → Prop} (hq : k7_scanWord_5 (upI M 70 4 2) K) : k7_scanWord M K := by
  intro sc d hd
  refine fr_aload_n (pc := 0) dX7_scanWord_0 rfl rfl ?_
  refine fr_iconst (pc := 1) dX7_scanWord_1 (by decide) ?_
  refine fr_put (a := 70) (i := 4) (pc := 2) dX7_scanWord_2 rfl pf_7_40 rfl s0_70 rfl rfl nf_70_4 rfl ?_
  exact hq sc d hd
theorem k7_scanWord_5_r {M : pm_M} {K : pm_M → Prop} (hq : (if gI M 70 2 < gI M 70 1 then ((0 ≤ gI M 70 2 ∧ gI M 70 2 < 600) ∧ (if gI M 1 (gI M 70 2) < 97 then K M else (if gI M 1 (gI M 70 2) ≤ 122 then k7_scanWord_5 (upI M 70 2 (w32 ((gI M 70 2) + 1))) K else K M))) else K M)) : k7_scanWord_5 M K := by
  intro sc d hd
  refine fr_aload_n (pc := 5) dX7_scanWord_5 rfl rfl ?_
  refine fr_getf (a := 70) (i := 2) (v := gI M 70 2) (t := 0) (pc := 6) dX7_scanWord_6 rfl pf_7_28 rfl s0_70 rfl rfl ?_
  refine fr_aload_n (pc := 9) dX7_scanWord_9 rfl rfl ?_
  refine fr_getf (a := 70) (i := 1) (v := gI M 70 1) (t := 0) (pc := 10) dX7_scanWord_10 rfl pf_7_24 rfl s0_70 rfl rfl ?_
  refine fr_icm_ge (tg := 57) (pc := 13) dX7_scanWord_13 rfl hq (fun hc1 hq => ?_) (fun hc1 hq => ?_)
  · refine fr_aload_n (pc := 16) dX7_scanWord_16 rfl rfl ?_
    refine fr_getr (a := 70) (pc := 17) dX7_scanWord_17 rfl pf_7_9 s0_70 rfl rf_70_0 ?_
    refine fr_aload_n (pc := 20) dX7_scanWord_20 rfl rfl ?_
    refine fr_getf (a := 70) (i := 2) (v := gI M 70 2) (t := 0) (pc := 21) dX7_scanWord_21 rfl pf_7_28 rfl s0_70 rfl rfl ?_
    obtain ⟨hb2, hq⟩ := hq
    refine fr_baload (a := 1) (v := gI M 1 (gI M 70 2)) (pc := 24) dX7_scanWord_24 rfl s0_1 hb2 (Or.inl rfl) rfl ?_
    refine fr_bipush (pc := 25) dX7_scanWord_25 (by decide) ?_
    refine fr_icm_lt (tg := 57) (pc := 27) dX7_scanWord_27 rfl hq (fun hc3 hq => ?_) (fun hc3 hq => ?_)
    · exact fr_vret (pc := 57) dX7_scanWord_57 rfl hq
    · refine fr_aload_n (pc := 30) dX7_scanWord_30 rfl rfl ?_
      refine fr_getr (a := 70) (pc := 31) dX7_scanWord_31 rfl pf_7_9 s0_70 rfl rf_70_0 ?_
      refine fr_aload_n (pc := 34) dX7_scanWord_34 rfl rfl ?_
      refine fr_getf (a := 70) (i := 2) (v := gI M 70 2) (t := 0) (pc := 35) dX7_scanWord_35 rfl pf_7_28 rfl s0_70 rfl rfl ?_
      refine fr_baload (a := 1) (v := gI M 1 (gI M 70 2)) (pc := 38) dX7_scanWord_38 rfl s0_1 hb2 (Or.inl rfl) rfl ?_
      refine fr_bipush (pc := 39) dX7_scanWord_39 (by decide) ?_
      refine fr_icm_gt (tg := 57) (pc := 41) dX7_scanWord_41 rfl hq (fun hc4 hq => ?_) (fun hc4 hq => ?_)
      · refine fr_aload_n (pc := 44) dX7_scanWord_44 rfl rfl ?_
        refine fr_dup (pc := 45) dX7_scanWord_45 pm_t2 ?_
        refine fr_getf (a := 70) (i := 2) (v := gI M 70 2) (t := 0) (pc := 46) dX7_scanWord_46 rfl pf_7_28 rfl s0_70 rfl rfl ?_
        refine fr_iconst (pc := 49) dX7_scanWord_49 (by decide) ?_
        refine fr_iadd (z := w32 ((gI M 70 2) + 1)) (pc := 50) dX7_scanWord_50 rfl ?_
        refine fr_put (a := 70) (i := 2) (pc := 51) dX7_scanWord_51 rfl pf_7_28 rfl s0_70 rfl rfl nf_70_2 rfl ?_
        refine fr_goto (tg := 5) (pc := 54) dX7_scanWord_54 rfl ?_
        exact hq sc d hd
      · exact fr_vret (pc := 57) dX7_scanWord_57 rfl hq
  · exact fr_vret (pc := 57) dX7_scanWord_57 rfl hq
theorem k7_scanNumeral_r {M : pm_M} {K : pm_M → Prop} (hq : k7_scanNumeral_0 M K) : k7_scanNumeral M K := by
  intro sc d hd
  exact hq sc d hd
theorem k7_scanNumeral_0_r {M : pm_M} {K : pm_M → Prop} (hq : (if gI M 70 2 < gI M 70 1 then ((0 ≤ gI M 70 2 ∧ gI M 70 2 < 600) ∧ (if gI M 1 (gI M 70 2) < 48 then (if w32 ((gI M 70 2) - (gI M 70 3)) ≤ 3 then K (upI M 70 4 3) else K (upI M 70 4 1)) else (if gI M 1 (gI M 70 2) ≤ 57 then (if w32 ((gI M 70 2) - (gI M 70 3)) < 3 then k7_scanNumeral_0 (upI (upI M 70 5 (w32 ((w32 ((w32 (10 * (gI M 70 5))) + (gI M 1 (gI M 70 2)))) - 48))) 70 2 (w32 ((gI M 70 2) + 1))) K else k7_scanNumeral_0 (upI M 70 2 (w32 ((gI M 70 2) + 1))) K) else (if w32 ((gI M 70 2) - (gI M 70 3)) ≤ 3 then K (upI M 70 4 3) else K (upI M 70 4 1))))) else (if w32 ((gI M 70 2) - (gI M 70 3)) ≤ 3 then K (upI M 70 4 3) else K (upI M 70 4 1)))) : k7_scanNumeral_0 M K := by
  intro sc d hd
  refine fr_aload_n (pc := 0) dX7_scanNumeral_0 rfl rfl ?_
  refine fr_getf (a := 70) (i := 2) (v := gI M 70 2) (t := 0) (pc := 1) dX7_scanNumeral_1 rfl pf_7_28 rfl s0_70 rfl rfl ?_
  refine fr_aload_n (pc := 4) dX7_scanNumeral_4 rfl rfl ?_
  refine fr_getf (a := 70) (i := 1) (v := gI M 70 1) (t := 0) (pc := 5) dX7_scanNumeral_5 rfl pf_7_24 rfl s0_70 rfl rfl ?_
  refine fr_icm_ge (tg := 89) (pc := 8) dX7_scanNumeral_8 rfl hq (fun hc1 hq => ?_) (fun hc1 hq => ?_)
  · refine fr_aload_n (pc := 11) dX7_scanNumeral_11 rfl rfl ?_
    refine fr_getr (a := 70) (pc := 12) dX7_scanNumeral_12 rfl pf_7_9 s0_70 rfl rf_70_0 ?_
    refine fr_aload_n (pc := 15) dX7_scanNumeral_15 rfl rfl ?_
    refine fr_getf (a := 70) (i := 2) (v := gI M 70 2) (t := 0) (pc := 16) dX7_scanNumeral_16 rfl pf_7_28 rfl s0_70 rfl rfl ?_
    obtain ⟨hb2, hq⟩ := hq
    refine fr_baload (a := 1) (v := gI M 1 (gI M 70 2)) (pc := 19) dX7_scanNumeral_19 rfl s0_1 hb2 (Or.inl rfl) rfl ?_
    refine fr_bipush (pc := 20) dX7_scanNumeral_20 (by decide) ?_
    refine fr_icm_lt (tg := 89) (pc := 22) dX7_scanNumeral_22 rfl hq (fun hc3 hq => ?_) (fun hc3 hq => ?_)
    · refine fr_aload_n (pc := 89) dX7_scanNumeral_89 rfl rfl ?_
      refine fr_aload_n (pc := 90) dX7_scanNumeral_90 rfl rfl ?_
      refine fr_getf (a := 70) (i := 2) (v := gI M 70 2) (t := 0) (pc := 91) dX7_scanNumeral_91 rfl pf_7_28 rfl s0_70 rfl rfl ?_
      refine fr_aload_n (pc := 94) dX7_scanNumeral_94 rfl rfl ?_
      refine fr_getf (a := 70) (i := 3) (v := gI M 70 3) (t := 0) (pc := 95) dX7_scanNumeral_95 rfl pf_7_37 rfl s0_70 rfl rfl ?_
      refine fr_isub (z := w32 ((gI M 70 2) - (gI M 70 3))) (pc := 98) dX7_scanNumeral_98 rfl ?_
      refine fr_iconst (pc := 99) dX7_scanNumeral_99 (by decide) ?_
      refine fr_icm_gt (tg := 107) (pc := 100) dX7_scanNumeral_100 rfl hq (fun hc4 hq => ?_) (fun hc4 hq => ?_)
      · refine fr_iconst (pc := 103) dX7_scanNumeral_103 (by decide) ?_
        refine fr_goto (tg := 108) (pc := 104) dX7_scanNumeral_104 rfl ?_
        refine fr_put (a := 70) (i := 4) (pc := 108) dX7_scanNumeral_108 rfl pf_7_40 rfl s0_70 rfl rfl nf_70_4 rfl ?_
        exact fr_vret (pc := 111) dX7_scanNumeral_111 rfl hq
      · refine fr_iconst (pc := 107) dX7_scanNumeral_107 (by decide) ?_
        refine fr_put (a := 70) (i := 4) (pc := 108) dX7_scanNumeral_108 rfl pf_7_40 rfl s0_70 rfl rfl nf_70_4 rfl ?_
        exact fr_vret (pc := 111) dX7_scanNumeral_111 rfl hq
    · refine fr_aload_n (pc := 25) dX7_scanNumeral_25 rfl rfl ?_
      refine fr_getr (a := 70) (pc := 26) dX7_scanNumeral_26 rfl pf_7_9 s0_70 rfl rf_70_0 ?_
      refine fr_aload_n (pc := 29) dX7_scanNumeral_29 rfl rfl ?_
      refine fr_getf (a := 70) (i := 2) (v := gI M 70 2) (t := 0) (pc := 30) dX7_scanNumeral_30 rfl pf_7_28 rfl s0_70 rfl rfl ?_
      refine fr_baload (a := 1) (v := gI M 1 (gI M 70 2)) (pc := 33) dX7_scanNumeral_33 rfl s0_1 hb2 (Or.inl rfl) rfl ?_
      refine fr_bipush (pc := 34) dX7_scanNumeral_34 (by decide) ?_
      refine fr_icm_gt (tg := 89) (pc := 36) dX7_scanNumeral_36 rfl hq (fun hc5 hq => ?_) (fun hc5 hq => ?_)
      · refine fr_aload_n (pc := 39) dX7_scanNumeral_39 rfl rfl ?_
        refine fr_getf (a := 70) (i := 2) (v := gI M 70 2) (t := 0) (pc := 40) dX7_scanNumeral_40 rfl pf_7_28 rfl s0_70 rfl rfl ?_
        refine fr_aload_n (pc := 43) dX7_scanNumeral_43 rfl rfl ?_
        refine fr_getf (a := 70) (i := 3) (v := gI M 70 3) (t := 0) (pc := 44) dX7_scanNumeral_44 rfl pf_7_37 rfl s0_70 rfl rfl ?_
        refine fr_isub (z := w32 ((gI M 70 2) - (gI M 70 3))) (pc := 47) dX7_scanNumeral_47 rfl ?_
        refine fr_iconst (pc := 48) dX7_scanNumeral_48 (by decide) ?_
        refine fr_icm_ge (tg := 76) (pc := 49) dX7_scanNumeral_49 rfl hq (fun hc6 hq => ?_) (fun hc6 hq => ?_)
        · refine fr_aload_n (pc := 52) dX7_scanNumeral_52 rfl rfl ?_
          refine fr_bipush (pc := 53) dX7_scanNumeral_53 (by decide) ?_
          refine fr_aload_n (pc := 55) dX7_scanNumeral_55 rfl rfl ?_
          refine fr_getf (a := 70) (i := 5) (v := gI M 70 5) (t := 0) (pc := 56) dX7_scanNumeral_56 rfl pf_7_43 rfl s0_70 rfl rfl ?_
          refine fr_imul (z := w32 (10 * (gI M 70 5))) (pc := 59) dX7_scanNumeral_59 rfl ?_
          refine fr_aload_n (pc := 60) dX7_scanNumeral_60 rfl rfl ?_
          refine fr_getr (a := 70) (pc := 61) dX7_scanNumeral_61 rfl pf_7_9 s0_70 rfl rf_70_0 ?_
          refine fr_aload_n (pc := 64) dX7_scanNumeral_64 rfl rfl ?_
          refine fr_getf (a := 70) (i := 2) (v := gI M 70 2) (t := 0) (pc := 65) dX7_scanNumeral_65 rfl pf_7_28 rfl s0_70 rfl rfl ?_
          refine fr_baload (a := 1) (v := gI M 1 (gI M 70 2)) (pc := 68) dX7_scanNumeral_68 rfl s0_1 hb2 (Or.inl rfl) rfl ?_
          refine fr_iadd (z := w32 ((w32 (10 * (gI M 70 5))) + (gI M 1 (gI M 70 2)))) (pc := 69) dX7_scanNumeral_69 rfl ?_
          refine fr_bipush (pc := 70) dX7_scanNumeral_70 (by decide) ?_
          refine fr_isub (z := w32 ((w32 ((w32 (10 * (gI M 70 5))) + (gI M 1 (gI M 70 2)))) - 48)) (pc := 72) dX7_scanNumeral_72 rfl ?_
          refine fr_put (a := 70) (i := 5) (pc := 73) dX7_scanNumeral_73 rfl pf_7_43 rfl s0_70 rfl rfl nf_70_5 rfl ?_
          refine fr_aload_n (pc := 76) dX7_scanNumeral_76 rfl rfl ?_
          refine fr_dup (pc := 77) dX7_scanNumeral_77 pm_t2 ?_
          refine fr_getf (a := 70) (i := 2) (v := gI M 70 2) (t := 0) (pc := 78) dX7_scanNumeral_78 rfl pf_7_28 rfl s0_70 rfl (gI_nf _ _ (by decide)) ?_
          refine fr_iconst (pc := 81) dX7_scanNumeral_81 (by decide) ?_
          refine fr_iadd (z := w32 ((gI M 70 2) + 1)) (pc := 82) dX7_scanNumeral_82 rfl ?_
          refine fr_put (a := 70) (i := 2) (pc := 83) dX7_scanNumeral_83 rfl pf_7_28 rfl s0_70 rfl rfl nf_70_2 rfl ?_
          refine fr_goto (tg := 0) (pc := 86) dX7_scanNumeral_86 rfl ?_
          exact hq sc d hd
        · refine fr_aload_n (pc := 76) dX7_scanNumeral_76 rfl rfl ?_
          refine fr_dup (pc := 77) dX7_scanNumeral_77 pm_t2 ?_
          refine fr_getf (a := 70) (i := 2) (v := gI M 70 2) (t := 0) (pc := 78) dX7_scanNumeral_78 rfl pf_7_28 rfl s0_70 rfl rfl ?_
          refine fr_iconst (pc := 81) dX7_scanNumeral_81 (by decide) ?_
          refine fr_iadd (z := w32 ((gI M 70 2) + 1)) (pc := 82) dX7_scanNumeral_82 rfl ?_
          refine fr_put (a := 70) (i := 2) (pc := 83) dX7_scanNumeral_83 rfl pf_7_28 rfl s0_70 rfl rfl nf_70_2 rfl ?_
          refine fr_goto (tg := 0) (pc := 86) dX7_scanNumeral_86 rfl ?_
          exact hq sc d hd
      · refine fr_aload_n (pc := 89) dX7_scanNumeral_89 rfl rfl ?_
        refine fr_aload_n (pc := 90) dX7_scanNumeral_90 rfl rfl ?_
        refine fr_getf (a := 70) (i := 2) (v := gI M 70 2) (t := 0) (pc := 91) dX7_scanNumeral_91 rfl pf_7_28 rfl s0_70 rfl rfl ?_
        refine fr_aload_n (pc := 94) dX7_scanNumeral_94 rfl rfl ?_
        refine fr_getf (a := 70) (i := 3) (v := gI M 70 3) (t := 0) (pc := 95) dX7_scanNumeral_95 rfl pf_7_37 rfl s0_70 rfl rfl ?_
        refine fr_isub (z := w32 ((gI M 70 2) - (gI M 70 3))) (pc := 98) dX7_scanNumeral_98 rfl ?_
        refine fr_iconst (pc := 99) dX7_scanNumeral_99 (by decide) ?_
        refine fr_icm_gt (tg := 107) (pc := 100) dX7_scanNumeral_100 rfl hq (fun hc7 hq => ?_) (fun hc7 hq => ?_)
        · refine fr_iconst (pc := 103) dX7_scanNumeral_103 (by decide) ?_
          refine fr_goto (tg := 108) (pc := 104) dX7_scanNumeral_104 rfl ?_
          refine fr_put (a := 70) (i := 4) (pc := 108) dX7_scanNumeral_108 rfl pf_7_40 rfl s0_70 rfl rfl nf_70_4 rfl ?_
          exact fr_vret (pc := 111) dX7_scanNumeral_111 rfl hq
        · refine fr_iconst (pc := 107) dX7_scanNumeral_107 (by decide) ?_
          refine fr_put (a := 70) (i := 4) (pc := 108) dX7_scanNumeral_108 rfl pf_7_40 rfl s0_70 rfl rfl nf_70_4 rfl ?_
          exact fr_vret (pc := 111) dX7_scanNumeral_111 rfl hq
  · refine fr_aload_n (pc := 89) dX7_scanNumeral_89 rfl rfl ?_
    refine fr_aload_n (pc := 90) dX7_scanNumeral_90 rfl rfl ?_
    refine fr_getf (a := 70) (i := 2) (v := gI M 70 2) (t := 0) (pc := 91) dX7_scanNumeral_91 rfl pf_7_28 rfl s0_70 rfl rfl ?_
    refine fr_aload_n (pc := 94) dX7_scanNumeral_94 rfl rfl ?_
    refine fr_getf (a := 70) (i := 3) (v := gI M 70 3) (t := 0) (pc := 95) dX7_scanNumeral_95 rfl pf_7_37 rfl s0_70 rfl rfl ?_
    refine fr_isub (z := w32 ((gI M 70 2) - (gI M 70 3))) (pc := 98) dX7_scanNumeral_98 rfl ?_
    refine fr_iconst (pc := 99) dX7_scanNumeral_99 (by decide) ?_
    refine fr_icm_gt (tg := 107) (pc := 100) dX7_scanNumeral_100 rfl hq (fun hc8 hq => ?_) (fun hc8 hq => ?_)
    · refine fr_iconst (pc := 103) dX7_scanNumeral_103 (by decide) ?_
      refine fr_goto (tg := 108) (pc := 104) dX7_scanNumeral_104 rfl ?_
      refine fr_put (a := 70) (i := 4) (pc := 108) dX7_scanNumeral_108 rfl pf_7_40 rfl s0_70 rfl rfl nf_70_4 rfl ?_
      exact fr_vret (pc := 111) dX7_scanNumeral_111 rfl hq
    · refine fr_iconst (pc := 107) dX7_scanNumeral_107 (by decide) ?_
      refine fr_put (a := 70) (i := 4) (pc := 108) dX7_scanNumeral_108 rfl pf_7_40 rfl s0_70 rfl rfl nf_70_4 rfl ?_
      exact fr_vret (pc := 111) dX7_scanNumeral_111 rfl hq
theorem k7_signBeforeEqual_r {a1 : Int} {M : pm_M} {K : Int → pm_M → Prop} (hq : (if a1 = 33 then K 8 M else (if a1 = 60 then K 6 M else (if a1 = 61 then K 7 M else (if a1 = 62 then K 10 M else K (-1) M))))) : k7_signBeforeEqual a1 M K := by
  intro sc d hd
  refine fr_iload_n (pc := 0) dX7_signBeforeEqual_0 rfl rfl ?_
  refine pm_ite hq (fun hc1 hq => ?_) (fun hc1 hq => ?_)
  · refine fr_lookV (tg := 53) (off := 52) (v := 33) (pc := 1) dX7_signBeforeEqual_1 rfl hc1 rfl rfl ?_
    refine fr_bipush (pc := 53) dX7_signBeforeEqual_53 (by decide) ?_
    exact fr_iret (pc := 55) dX7_signBeforeEqual_55 (Or.inl rfl) hq
  · refine pm_ite hq (fun hc2 hq => ?_) (fun hc2 hq => ?_)
    · refine fr_lookV (tg := 44) (off := 43) (v := 60) (pc := 1) dX7_signBeforeEqual_1 rfl hc2 rfl rfl ?_
      refine fr_bipush (pc := 44) dX7_signBeforeEqual_44 (by decide) ?_
      exact fr_iret (pc := 46) dX7_signBeforeEqual_46 (Or.inl rfl) hq
    · refine pm_ite hq (fun hc3 hq => ?_) (fun hc3 hq => ?_)
      · refine fr_lookV (tg := 50) (off := 49) (v := 61) (pc := 1) dX7_signBeforeEqual_1 rfl hc3 rfl rfl ?_
        refine fr_bipush (pc := 50) dX7_signBeforeEqual_50 (by decide) ?_
        exact fr_iret (pc := 52) dX7_signBeforeEqual_52 (Or.inl rfl) hq
      · refine pm_ite hq (fun hc4 hq => ?_) (fun hc4 hq => ?_)
        · refine fr_lookV (tg := 47) (off := 46) (v := 62) (pc := 1) dX7_signBeforeEqual_1 rfl hc4 rfl rfl ?_
          refine fr_bipush (pc := 47) dX7_signBeforeEqual_47 (by decide) ?_
          exact fr_iret (pc := 49) dX7_signBeforeEqual_49 (Or.inl rfl) hq
        · refine fr_lookup (tg := 56) (off := 55) (pc := 1) dX7_signBeforeEqual_1 rfl (by simp only [Op.lookupswitch.offset, if_neg (Ne.symm hc1), if_neg (Ne.symm hc2), if_neg (Ne.symm hc3), if_neg (Ne.symm hc4)]) rfl ?_
          refine fr_iconst (pc := 56) dX7_signBeforeEqual_56 (by decide) ?_
          exact fr_iret (pc := 57) dX7_signBeforeEqual_57 (Or.inl rfl) hq
theorem k7_signAlone_r {a1 : Int} {M : pm_M} {K : Int → pm_M → Prop} (hq : (if a1 = 60 then K 5 M else (if a1 = 62 then K 9 M else kJ0_indexOf_0f7a4 0 (a1 % 65536) M (fun r4 M3 => K r4 M3)))) : k7_signAlone a1 M K := by
  intro sc d hd
  refine fr_iload_n (pc := 0) dX7_signAlone_0 rfl rfl ?_
  refine pm_ite hq (fun hc1 hq => ?_) (fun hc1 hq => ?_)
  · refine fr_lookV (tg := 28) (off := 27) (v := 60) (pc := 1) dX7_signAlone_1 rfl hc1 rfl rfl ?_
    refine fr_iconst (pc := 28) dX7_signAlone_28 (by decide) ?_
    exact fr_iret (pc := 29) dX7_signAlone_29 (Or.inl rfl) hq
  · refine pm_ite hq (fun hc2 hq => ?_) (fun hc2 hq => ?_)
    · refine fr_lookV (tg := 30) (off := 29) (v := 62) (pc := 1) dX7_signAlone_1 rfl hc2 rfl rfl ?_
      refine fr_bipush (pc := 30) dX7_signAlone_30 (by decide) ?_
      exact fr_iret (pc := 32) dX7_signAlone_32 (Or.inl rfl) hq
    · refine fr_lookup (tg := 33) (off := 32) (pc := 1) dX7_signAlone_1 rfl (by simp only [Op.lookupswitch.offset, if_neg (Ne.symm hc1), if_neg (Ne.symm hc2)]) rfl ?_
      refine fr_ldcs (pc := 33) dX7_signAlone_33 rfl rfl ?_
      refine fr_iload_n (pc := 35) dX7_signAlone_35 rfl rfl ?_
      refine fr_i2c (z := a1 % 65536) (pc := 36) dX7_signAlone_36 rfl ?_
      refine fr_inTI (as := [(0, a1 % 65536)]) (rest := []) (ls' := [(3, 0), (0, a1 % 65536)]) (c1 := 0) (c2 := 0) (pc := 37) dX7_signAlone_37 pl_7_72 rfl ⟨Nat.le_of_ble_eq_true rfl, Nat.le_of_ble_eq_true rfl⟩ rfl rfl (by decide) rfl (by omega) rfl rfl (pm_zc _) (hq sc _ (by omega)) (fun r4 M3 hq => ?_)
      exact fr_iret (pc := 40) dX7_signAlone_40 (Or.inl rfl) hq
theorem kJ0_indexOf_0f7a4_r {tx a1 : Int} {M : pm_M} {K : Int → pm_M → Prop} (htx : 0 ≤ tx ∧ tx < 10) (hq : kJ0_indexOf_7cf53 tx a1 0 M (fun r2 M1 => K r2 M1)) : kJ0_indexOf_0f7a4 tx a1 M K := by
  intro sc d hd
  refine fr_aload_n (pc := 0) dJ0_indexOf_0f7a4_0 rfl rfl ?_
  refine fr_iload_n (pc := 1) dJ0_indexOf_0f7a4_1 rfl rfl ?_
  refine fr_iconst (pc := 2) dJ0_indexOf_0f7a4_2 (by decide) ?_
  refine fr_inTI (as := [(0, a1), (0, 0)]) (rest := []) (ls' := [(3, tx), (0, a1), (0, 0)]) (c1 := 0) (c2 := 0) (pc := 3) dJ0_indexOf_0f7a4_3 pl_17_633 rfl ⟨Nat.le_of_ble_eq_true rfl, Nat.le_of_ble_eq_true rfl⟩ rfl rfl htx rfl (by omega) rfl rfl (pm_zc _) (hq sc _ (by omega)) (fun r2 M1 hq => ?_)
  exact fr_iret (pc := 6) dJ0_indexOf_0f7a4_6 (Or.inl rfl) hq
theorem kJ0_indexOf_7cf53_r {tx a1 a2 : Int} {M : pm_M} {K : Int → pm_M → Prop} (htx : 0 ≤ tx ∧ tx < 10) (hq : kJ1_indexOf_4cfef tx a1 a2 (pm_ishr ((pm_txt tx.toNat).length : Int) 0) M (fun r2 M1 => K r2 M1)) : kJ0_indexOf_7cf53 tx a1 a2 M K := by
  intro sc d hd
  refine fr_aload_n (pc := 0) dJ0_indexOf_7cf53_0 rfl rfl ?_
  refine fr_inTI (as := []) (rest := []) (ls' := [(3, tx)]) (c1 := 0) (c2 := 0) (pc := 1) dJ0_indexOf_7cf53_1 pl_17_492 rfl ⟨Nat.le_of_ble_eq_true rfl, Nat.le_of_ble_eq_true rfl⟩ rfl rfl htx rfl (by omega) rfl rfl (pm_zc _) ?_ (fun y M' h => h)
  refine fr_getst (pc := 0) dJ0_isLatin1_aae02_0 rfl ?_
  refine fr_ifcF (tg := 17) (pc := 3) dJ0_isLatin1_aae02_3 rfl rfl ?_
  refine fr_aload_n (pc := 6) dJ0_isLatin1_aae02_6 rfl rfl ?_
  refine fr_tcod (pc := 7) dJ0_isLatin1_aae02_7 htx rfl ?_
  refine fr_ifcF (tg := 17) (pc := 10) dJ0_isLatin1_aae02_10 rfl rfl ?_
  refine fr_iconst (pc := 13) dJ0_isLatin1_aae02_13 (by decide) ?_
  refine fr_goto (tg := 18) (pc := 14) dJ0_isLatin1_aae02_14 rfl ?_
  refine fr_iret (pc := 18) dJ0_isLatin1_aae02_18 (Or.inr (Or.inl ⟨rfl, Or.inr rfl⟩)) ?_
  refine fr_ifcF (tg := 23) (pc := 4) dJ0_indexOf_7cf53_4 rfl rfl ?_
  refine fr_aload_n (pc := 7) dJ0_indexOf_7cf53_7 rfl rfl ?_
  refine fr_tval (pc := 8) dJ0_indexOf_7cf53_8 htx rfl ?_
  refine fr_iload_n (pc := 11) dJ0_indexOf_7cf53_11 rfl rfl ?_
  refine fr_iload_n (pc := 12) dJ0_indexOf_7cf53_12 rfl rfl ?_
  refine fr_aload_n (pc := 13) dJ0_indexOf_7cf53_13 rfl rfl ?_
  refine fr_inTI (as := []) (rest := [(0, a2), (0, a1), (5, tx)]) (ls' := [(3, tx)]) (c1 := 0) (c2 := 0) (pc := 14) dJ0_indexOf_7cf53_14 pl_17_505 rfl ⟨Nat.le_of_ble_eq_true rfl, Nat.le_of_ble_eq_true rfl⟩ rfl rfl htx rfl (by omega) rfl rfl (pm_zc _) ?_ (fun y M' h => h)
  refine fr_aload_n (pc := 0) dJ0_length_8abf5_0 rfl rfl ?_
  refine fr_tval (pc := 1) dJ0_length_8abf5_1 htx rfl ?_
  refine fr_tlen (pc := 4) dJ0_length_8abf5_4 htx ?_
  refine fr_aload_n (pc := 5) dJ0_length_8abf5_5 rfl rfl ?_
  refine fr_inTI (as := []) (rest := [(0, ((pm_txt tx.toNat).length : Int))]) (ls' := [(3, tx)]) (c1 := 0) (c2 := 0) (pc := 6) dJ0_length_8abf5_6 pl_17_335 rfl ⟨Nat.le_of_ble_eq_true rfl, Nat.le_of_ble_eq_true rfl⟩ rfl rfl htx rfl (by omega) rfl rfl (pm_zc _) ?_ (fun y M' h => h)
  refine fr_getst (pc := 0) dJ0_coder_7d493_0 rfl ?_
  refine fr_ifcF (tg := 13) (pc := 3) dJ0_coder_7d493_3 rfl rfl ?_
  refine fr_aload_n (pc := 6) dJ0_coder_7d493_6 rfl rfl ?_
  refine fr_tcod (pc := 7) dJ0_coder_7d493_7 htx rfl ?_
  refine fr_goto (tg := 14) (pc := 10) dJ0_coder_7d493_10 rfl ?_
  refine fr_iret (pc := 14) dJ0_coder_7d493_14 (Or.inr (Or.inr (Or.inr ⟨rfl, by decide, by decide⟩))) ?_
  refine fr_ishr (z := pm_ishr ((pm_txt tx.toNat).length : Int) 0) (pc := 9) dJ0_length_8abf5_9 rfl ?_
  refine fr_iret (pc := 10) dJ0_length_8abf5_10 (Or.inl rfl) ?_
  refine fr_inSI (as := [(5, tx), (0, a1), (0, a2), (0, pm_ishr ((pm_txt tx.toNat).length : Int) 0)]) (rest := []) (ls' := [(5, tx), (0, a1), (0, a2), (0, pm_ishr ((pm_txt tx.toNat).length : Int) 0)]) (c1 := 0) (c2 := 0) (pc := 17) dJ0_indexOf_7cf53_17 pl_17_637 rfl ⟨Nat.le_of_ble_eq_true rfl, Nat.le_of_ble_eq_true rfl⟩ rfl rfl  (by omega) rfl rfl (pm_zc _) (hq sc _ (by omega)) (fun r2 M1 hq => ?_)
  refine fr_goto (tg := 36) (pc := 20) dJ0_indexOf_7cf53_20 rfl ?_
  exact fr_iret (pc := 36) dJ0_indexOf_7cf53_36 (Or.inl rfl) hq
theorem kJ1_indexOf_4cfef_r {tx a2 a3 a4 : Int} {M : pm_M} {K : Int → pm_M → Prop} (htx : 0 ≤ tx ∧ tx < 10) (hq : (if a2 < 0 then K (-1) M else (if a2 ≤ 255 then (if (if a3 < 0 then 0 else a3) < (if ((pm_txt tx.toNat).length : Int) < a4 then ((pm_txt tx.toNat).length : Int) else a4) then kJ1_indexOfChar_4cfef tx a2 (if a3 < 0 then 0 else a3) (if ((pm_txt tx.toNat).length : Int) < a4 then ((pm_txt tx.toNat).length : Int) else a4) M (fun r5 M4 => K r5 M4) else K (-1) M) else K (-1) M))) : kJ1_indexOf_4cfef tx a2 a3 a4 M K := by
  intro sc d hd
  refine fr_iload_n (pc := 0) dJ1_indexOf_4cfef_0 rfl rfl ?_
  refine fr_inSI (as := [(0, a2)]) (rest := []) (ls' := [(0, a2)]) (c1 := 0) (c2 := 0) (pc := 1) dJ1_indexOf_4cfef_1 pl_18_88 rfl ⟨Nat.le_of_ble_eq_true rfl, Nat.le_of_ble_eq_true rfl⟩ rfl rfl  (by omega) rfl rfl (pm_zc _) ?_ (fun y M' h => h)
  refine fr_iload_n (pc := 0) dJ1_canEncode_9a6ad_0 rfl rfl ?_
  refine fr_ifc_lt (tg := 15) (pc := 1) dJ1_canEncode_9a6ad_1 rfl hq (fun hc1 hq => ?_) (fun hc1 hq => ?_)
  · refine fr_iconst (pc := 15) dJ1_canEncode_9a6ad_15 (by decide) ?_
    refine fr_iret (pc := 16) dJ1_canEncode_9a6ad_16 (Or.inr (Or.inl ⟨rfl, Or.inl rfl⟩)) ?_
    refine fr_ifcF (tg := 9) (pc := 4) dJ1_indexOf_4cfef_4 rfl rfl ?_
    refine fr_iconst (pc := 7) dJ1_indexOf_4cfef_7 (by decide) ?_
    exact fr_iret (pc := 8) dJ1_indexOf_4cfef_8 (Or.inl rfl) hq
  · refine fr_iload_n (pc := 4) dJ1_canEncode_9a6ad_4 rfl rfl ?_
    refine fr_sipush (pc := 5) dJ1_canEncode_9a6ad_5 (by decide) ?_
    refine fr_icm_gt (tg := 15) (pc := 8) dJ1_canEncode_9a6ad_8 rfl hq (fun hc2 hq => ?_) (fun hc2 hq => ?_)
    · refine fr_iconst (pc := 11) dJ1_canEncode_9a6ad_11 (by decide) ?_
      refine fr_goto (tg := 16) (pc := 12) dJ1_canEncode_9a6ad_12 rfl ?_
      refine fr_iret (pc := 16) dJ1_canEncode_9a6ad_16 (Or.inr (Or.inl ⟨rfl, Or.inr rfl⟩)) ?_
      refine fr_ifcT (tg := 9) (pc := 4) dJ1_indexOf_4cfef_4 rfl rfl ?_
      refine fr_iload_n (pc := 9) dJ1_indexOf_4cfef_9 rfl rfl ?_
      refine fr_iconst (pc := 10) dJ1_indexOf_4cfef_10 (by decide) ?_
      refine fr_max (pc := 11) dJ1_indexOf_4cfef_11 pl_18_92 rfl (Nat.le_of_ble_eq_true rfl) ?_
      refine fr_istore_n (ls2 := [(5, tx), (0, a2), (0, (if a3 < 0 then 0 else a3)), (0, a4)]) (pc := 14) dJ1_indexOf_4cfef_14 rfl (Nat.le_of_ble_eq_true rfl) rfl ?_
      refine fr_iload_n (pc := 15) dJ1_indexOf_4cfef_15 rfl rfl ?_
      refine fr_aload_n (pc := 16) dJ1_indexOf_4cfef_16 rfl rfl ?_
      refine fr_tlen (pc := 17) dJ1_indexOf_4cfef_17 htx ?_
      refine fr_min (pc := 18) dJ1_indexOf_4cfef_18 pl_18_38 rfl (Nat.le_of_ble_eq_true rfl) ?_
      refine fr_istore_n (ls2 := [(5, tx), (0, a2), (0, (if a3 < 0 then 0 else a3)), (0, (if ((pm_txt tx.toNat).length : Int) < a4 then ((pm_txt tx.toNat).length : Int) else a4))]) (pc := 21) dJ1_indexOf_4cfef_21 rfl (Nat.le_of_ble_eq_true rfl) rfl ?_
      refine fr_iload_n (pc := 22) dJ1_indexOf_4cfef_22 rfl rfl ?_
      refine fr_iload_n (pc := 23) dJ1_indexOf_4cfef_23 rfl rfl ?_
      refine fr_icm_lt (tg := 29) (pc := 24) dJ1_indexOf_4cfef_24 rfl hq (fun hc3 hq => ?_) (fun hc3 hq => ?_)
      · refine fr_aload_n (pc := 29) dJ1_indexOf_4cfef_29 rfl rfl ?_
        refine fr_iload_n (pc := 30) dJ1_indexOf_4cfef_30 rfl rfl ?_
        refine fr_iload_n (pc := 31) dJ1_indexOf_4cfef_31 rfl rfl ?_
        refine fr_iload_n (pc := 32) dJ1_indexOf_4cfef_32 rfl rfl ?_
        refine fr_inSI (as := [(5, tx), (0, a2), (0, (if a3 < 0 then 0 else a3)), (0, (if ((pm_txt tx.toNat).length : Int) < a4 then ((pm_txt tx.toNat).length : Int) else a4))]) (rest := []) (ls' := [(5, tx), (0, a2), (0, (if a3 < 0 then 0 else a3)), (0, (if ((pm_txt tx.toNat).length : Int) < a4 then ((pm_txt tx.toNat).length : Int) else a4)), (9, 0), (9, 0)]) (c1 := 0) (c2 := 0) (pc := 33) dJ1_indexOf_4cfef_33 pl_18_95 rfl ⟨Nat.le_of_ble_eq_true rfl, Nat.le_of_ble_eq_true rfl⟩ rfl rfl  (by omega) rfl rfl (pm_zc _) (hq sc _ (by omega)) (fun r5 M4 hq => ?_)
        exact fr_iret (pc := 36) dJ1_indexOf_4cfef_36 (Or.inl rfl) hq
      · refine fr_iconst (pc := 27) dJ1_indexOf_4cfef_27 (by decide) ?_
        exact fr_iret (pc := 28) dJ1_indexOf_4cfef_28 (Or.inl rfl) hq
    · refine fr_iconst (pc := 15) dJ1_canEncode_9a6ad_15 (by decide) ?_
      refine fr_iret (pc := 16) dJ1_canEncode_9a6ad_16 (Or.inr (Or.inl ⟨rfl, Or.inl rfl⟩)) ?_
      refine fr_ifcF (tg := 9) (pc := 4) dJ1_indexOf_4cfef_4 rfl rfl ?_
      refine fr_iconst (pc := 7) dJ1_indexOf_4cfef_7 (by decide) ?_
      exact fr_iret (pc := 8) dJ1_indexOf_4cfef_8 (Or.inl rfl) hq
theorem kJ1_indexOfChar_4cfef_r {tx a2 a3 a4 : Int} {M : pm_M} {K : Int → pm_M → Prop} (htx : 0 ≤ tx ∧ tx < 10) (hq : kJ1_indexOfChar_4cfef_7 tx a4 (w8 a2) a3 M K) : kJ1_indexOfChar_4cfef tx a2 a3 a4 M K := by
  intro sc d hd
  refine fr_iload_n (pc := 0) dJ1_indexOfChar_4cfef_0 rfl rfl ?_
  refine fr_i2b (z := w8 a2) (pc := 1) dJ1_indexOfChar_4cfef_1 rfl ?_
  refine fr_istore (ls2 := [(5, tx), (0, a2), (0, a3), (0, a4), (0, w8 a2), (9, 0)]) (pc := 2) dJ1_indexOfChar_4cfef_2 rfl (Nat.le_of_ble_eq_true rfl) rfl ?_
  refine fr_iload_n (pc := 4) dJ1_indexOfChar_4cfef_4 rfl rfl ?_
  refine fr_istore (ls2 := [(5, tx), (0, a2), (0, a3), (0, a4), (0, w8 a2), (0, a3)]) (pc := 5) dJ1_indexOfChar_4cfef_5 rfl (Nat.le_of_ble_eq_true rfl) rfl ?_
  exact hq sc d hd (0, a2) pm_t0 (0, a3) pm_t0
theorem kJ1_indexOfChar_4cfef_7_r {tx l3 l4 l5 : Int} {M : pm_M} {K : Int → pm_M → Prop} (htx : 0 ≤ tx ∧ tx < 10) (hq : (if l5 < l3 then ((0 ≤ l5 ∧ l5 < ((pm_txt tx.toNat).length : Int)) ∧ (if (pm_txt tx.toNat).getD l5.toNat 0 = l4 then K l5 M else kJ1_indexOfChar_4cfef_7 tx l3 l4 (w32 (l5 + 1)) M K)) else K (-1) M)) : kJ1_indexOfChar_4cfef_7 tx l3 l4 l5 M K := by
  intro sc d hd z1 hz1 z2 hz2
  refine fr_iload (pc := 7) dJ1_indexOfChar_4cfef_7 rfl rfl ?_
  refine fr_iload_n (pc := 9) dJ1_indexOfChar_4cfef_9 rfl rfl ?_
  refine fr_icm_ge (tg := 31) (pc := 10) dJ1_indexOfChar_4cfef_10 rfl hq (fun hc1 hq => ?_) (fun hc1 hq => ?_)
  · refine fr_aload_n (pc := 13) dJ1_indexOfChar_4cfef_13 rfl rfl ?_
    refine fr_iload (pc := 14) dJ1_indexOfChar_4cfef_14 rfl rfl ?_
    obtain ⟨hb2, hq⟩ := hq
    refine fr_tald (pc := 16) dJ1_indexOfChar_4cfef_16 htx hb2 ?_
    refine fr_iload (pc := 17) dJ1_indexOfChar_4cfef_17 rfl rfl ?_
    refine fr_icm_ne (tg := 25) (pc := 19) dJ1_indexOfChar_4cfef_19 rfl hq (fun hc3 hq => ?_) (fun hc3 hq => ?_)
    · refine fr_iload (pc := 22) dJ1_indexOfChar_4cfef_22 rfl rfl ?_
      exact fr_iret (pc := 24) dJ1_indexOfChar_4cfef_24 (Or.inl rfl) hq
    · refine fr_iinc (z := w32 (l5 + 1)) (ls2 := [(5, tx), z1, z2, (0, l3), (0, l4), (0, w32 (l5 + 1))]) (pc := 25) dJ1_indexOfChar_4cfef_25 (Nat.le_of_ble_eq_true rfl) rfl rfl rfl ?_
      refine fr_goto (tg := 7) (pc := 28) dJ1_indexOfChar_4cfef_28 rfl ?_
      exact hq sc d hd z1 hz1 z2 hz2
  · refine fr_iconst (pc := 31) dJ1_indexOfChar_4cfef_31 (by decide) ?_
    exact fr_iret (pc := 32) dJ1_indexOfChar_4cfef_32 (Or.inl rfl) hq
theorem k7_scanSign_r {a1 a2 a3 : Int} {M : pm_M} {K : pm_M → Prop} (hq : kJ0_indexOf_0f7a4 1 (a1 % 65536) M (fun r2 M1 => (if r2 < 0 then (if a2 = (-1) then (if a3 = (-1) then K (upI (upI (upI M1 70 4 1) 70 5 a1) 70 2 (w32 ((gI M1 70 2) + 1))) else K (upI (upI (upI M1 70 4 4) 70 5 a3) 70 2 (w32 ((gI M1 70 2) + 1)))) else K (upI (upI (upI M1 70 4 4) 70 5 a2) 70 2 (w32 ((gI M1 70 2) + 2)))) else (if a2 = (-1) then (if a3 = (-1) then K (upI (upI (upI M1 70 4 5) 70 5 a1) 70 2 (w32 ((gI M1 70 2) + 1))) else K (upI (upI (upI M1 70 4 4) 70 5 a3) 70 2 (w32 ((gI M1 70 2) + 1)))) else K (upI (upI (upI M1 70 4 4) 70 5 a2) 70 2 (w32 ((gI M1 70 2) + 2))))))) : k7_scanSign a1 a2 a3 M K := by
  intro sc d hd
  refine fr_ldcs (pc := 0) dX7_scanSign_0 rfl rfl ?_
  refine fr_iload_n (pc := 2) dX7_scanSign_2 rfl rfl ?_
  refine fr_i2c (z := a1 % 65536) (pc := 3) dX7_scanSign_3 rfl ?_
  refine fr_inTI (as := [(0, a1 % 65536)]) (rest := []) (ls' := [(3, 1), (0, a1 % 65536)]) (c1 := 0) (c2 := 0) (pc := 4) dX7_scanSign_4 pl_7_72 rfl ⟨Nat.le_of_ble_eq_true rfl, Nat.le_of_ble_eq_true rfl⟩ rfl rfl (by decide) rfl (by omega) rfl rfl (pm_zc _) (hq sc _ (by omega)) (fun r2 M1 hq => ?_)
  refine fr_ifc_lt (tg := 14) (pc := 7) dX7_scanSign_7 rfl hq (fun hc3 hq => ?_) (fun hc3 hq => ?_)
  · refine fr_iconst (pc := 14) dX7_scanSign_14 (by decide) ?_
    refine fr_istore (ls2 := [(2, 70), (0, a1), (0, a2), (0, a3), (0, 0)]) (pc := 15) dX7_scanSign_15 rfl (Nat.le_of_ble_eq_true rfl) rfl ?_
    refine fr_aload_n (pc := 17) dX7_scanSign_17 rfl rfl ?_
    refine fr_iload_n (pc := 18) dX7_scanSign_18 rfl rfl ?_
    refine fr_iconst (pc := 19) dX7_scanSign_19 (by decide) ?_
    refine fr_icm_ne (tg := 28) (pc := 20) dX7_scanSign_20 rfl hq (fun hc4 hq => ?_) (fun hc4 hq => ?_)
    · refine fr_iload_n (pc := 23) dX7_scanSign_23 rfl rfl ?_
      refine fr_iconst (pc := 24) dX7_scanSign_24 (by decide) ?_
      refine fr_icm_eq (tg := 32) (pc := 25) dX7_scanSign_25 rfl hq (fun hc5 hq => ?_) (fun hc5 hq => ?_)
      · refine fr_iload (pc := 32) dX7_scanSign_32 rfl rfl ?_
        refine fr_ifcT (tg := 41) (pc := 34) dX7_scanSign_34 rfl rfl ?_
        refine fr_iconst (pc := 41) dX7_scanSign_41 (by decide) ?_
        refine fr_put (a := 70) (i := 4) (pc := 42) dX7_scanSign_42 rfl pf_7_40 rfl s0_70 rfl rfl nf_70_4 rfl ?_
        refine fr_aload_n (pc := 45) dX7_scanSign_45 rfl rfl ?_
        refine fr_iload_n (pc := 46) dX7_scanSign_46 rfl rfl ?_
        refine fr_iconst (pc := 47) dX7_scanSign_47 (by decide) ?_
        refine fr_icmT (tg := 55) (pc := 48) dX7_scanSign_48 (decide_eq_true hc4) rfl ?_
        refine fr_iload_n (pc := 55) dX7_scanSign_55 rfl rfl ?_
        refine fr_iconst (pc := 56) dX7_scanSign_56 (by decide) ?_
        refine fr_icmT (tg := 64) (pc := 57) dX7_scanSign_57 (decide_eq_true hc5) rfl ?_
        refine fr_iload_n (pc := 64) dX7_scanSign_64 rfl rfl ?_
        refine fr_put (a := 70) (i := 5) (pc := 65) dX7_scanSign_65 rfl pf_7_43 rfl s0_70 rfl rfl nf_70_5 rfl ?_
        refine fr_aload_n (pc := 68) dX7_scanSign_68 rfl rfl ?_
        refine fr_dup (pc := 69) dX7_scanSign_69 pm_t2 ?_
        refine fr_getf (a := 70) (i := 2) (v := gI M1 70 2) (t := 0) (pc := 70) dX7_scanSign_70 rfl pf_7_28 rfl s0_70 rfl ((gI_nf _ _ (by decide)).trans (gI_nf _ _ (by decide))) ?_
        refine fr_iload_n (pc := 73) dX7_scanSign_73 rfl rfl ?_
        refine fr_iconst (pc := 74) dX7_scanSign_74 (by decide) ?_
        refine fr_icmT (tg := 82) (pc := 75) dX7_scanSign_75 (decide_eq_true hc4) rfl ?_
        refine fr_iconst (pc := 82) dX7_scanSign_82 (by decide) ?_
        refine fr_iadd (z := w32 ((gI M1 70 2) + 1)) (pc := 83) dX7_scanSign_83 rfl ?_
        refine fr_put (a := 70) (i := 2) (pc := 84) dX7_scanSign_84 rfl pf_7_28 rfl s0_70 rfl rfl nf_70_2 rfl ?_
        exact fr_vret (pc := 87) dX7_scanSign_87 rfl hq
      · refine fr_iconst (pc := 28) dX7_scanSign_28 (by decide) ?_
        refine fr_goto (tg := 42) (pc := 29) dX7_scanSign_29 rfl ?_
        refine fr_put (a := 70) (i := 4) (pc := 42) dX7_scanSign_42 rfl pf_7_40 rfl s0_70 rfl rfl nf_70_4 rfl ?_
        refine fr_aload_n (pc := 45) dX7_scanSign_45 rfl rfl ?_
        refine fr_iload_n (pc := 46) dX7_scanSign_46 rfl rfl ?_
        refine fr_iconst (pc := 47) dX7_scanSign_47 (by decide) ?_
        refine fr_icmT (tg := 55) (pc := 48) dX7_scanSign_48 (decide_eq_true hc4) rfl ?_
        refine fr_iload_n (pc := 55) dX7_scanSign_55 rfl rfl ?_
        refine fr_iconst (pc := 56) dX7_scanSign_56 (by decide) ?_
        refine fr_icmF (tg := 64) (pc := 57) dX7_scanSign_57 (decide_eq_false hc5) rfl ?_
        refine fr_iload_n (pc := 60) dX7_scanSign_60 rfl rfl ?_
        refine fr_goto (tg := 65) (pc := 61) dX7_scanSign_61 rfl ?_
        refine fr_put (a := 70) (i := 5) (pc := 65) dX7_scanSign_65 rfl pf_7_43 rfl s0_70 rfl rfl nf_70_5 rfl ?_
        refine fr_aload_n (pc := 68) dX7_scanSign_68 rfl rfl ?_
        refine fr_dup (pc := 69) dX7_scanSign_69 pm_t2 ?_
        refine fr_getf (a := 70) (i := 2) (v := gI M1 70 2) (t := 0) (pc := 70) dX7_scanSign_70 rfl pf_7_28 rfl s0_70 rfl ((gI_nf _ _ (by decide)).trans (gI_nf _ _ (by decide))) ?_
        refine fr_iload_n (pc := 73) dX7_scanSign_73 rfl rfl ?_
        refine fr_iconst (pc := 74) dX7_scanSign_74 (by decide) ?_
        refine fr_icmT (tg := 82) (pc := 75) dX7_scanSign_75 (decide_eq_true hc4) rfl ?_
        refine fr_iconst (pc := 82) dX7_scanSign_82 (by decide) ?_
        refine fr_iadd (z := w32 ((gI M1 70 2) + 1)) (pc := 83) dX7_scanSign_83 rfl ?_
        refine fr_put (a := 70) (i := 2) (pc := 84) dX7_scanSign_84 rfl pf_7_28 rfl s0_70 rfl rfl nf_70_2 rfl ?_
        exact fr_vret (pc := 87) dX7_scanSign_87 rfl hq
    · refine fr_iconst (pc := 28) dX7_scanSign_28 (by decide) ?_
      refine fr_goto (tg := 42) (pc := 29) dX7_scanSign_29 rfl ?_
      refine fr_put (a := 70) (i := 4) (pc := 42) dX7_scanSign_42 rfl pf_7_40 rfl s0_70 rfl rfl nf_70_4 rfl ?_
      refine fr_aload_n (pc := 45) dX7_scanSign_45 rfl rfl ?_
      refine fr_iload_n (pc := 46) dX7_scanSign_46 rfl rfl ?_
      refine fr_iconst (pc := 47) dX7_scanSign_47 (by decide) ?_
      refine fr_icmF (tg := 55) (pc := 48) dX7_scanSign_48 (decide_eq_false hc4) rfl ?_
      refine fr_iload_n (pc := 51) dX7_scanSign_51 rfl rfl ?_
      refine fr_goto (tg := 65) (pc := 52) dX7_scanSign_52 rfl ?_
      refine fr_put (a := 70) (i := 5) (pc := 65) dX7_scanSign_65 rfl pf_7_43 rfl s0_70 rfl rfl nf_70_5 rfl ?_
      refine fr_aload_n (pc := 68) dX7_scanSign_68 rfl rfl ?_
      refine fr_dup (pc := 69) dX7_scanSign_69 pm_t2 ?_
      refine fr_getf (a := 70) (i := 2) (v := gI M1 70 2) (t := 0) (pc := 70) dX7_scanSign_70 rfl pf_7_28 rfl s0_70 rfl ((gI_nf _ _ (by decide)).trans (gI_nf _ _ (by decide))) ?_
      refine fr_iload_n (pc := 73) dX7_scanSign_73 rfl rfl ?_
      refine fr_iconst (pc := 74) dX7_scanSign_74 (by decide) ?_
      refine fr_icmF (tg := 82) (pc := 75) dX7_scanSign_75 (decide_eq_false hc4) rfl ?_
      refine fr_iconst (pc := 78) dX7_scanSign_78 (by decide) ?_
      refine fr_goto (tg := 83) (pc := 79) dX7_scanSign_79 rfl ?_
      refine fr_iadd (z := w32 ((gI M1 70 2) + 2)) (pc := 83) dX7_scanSign_83 rfl ?_
      refine fr_put (a := 70) (i := 2) (pc := 84) dX7_scanSign_84 rfl pf_7_28 rfl s0_70 rfl rfl nf_70_2 rfl ?_
      exact fr_vret (pc := 87) dX7_scanSign_87 rfl hq
  · refine fr_iconst (pc := 10) dX7_scanSign_10 (by decide) ?_
    refine fr_goto (tg := 15) (pc := 11) dX7_scanSign_11 rfl ?_
    refine fr_istore (ls2 := [(2, 70), (0, a1), (0, a2), (0, a3), (0, 1)]) (pc := 15) dX7_scanSign_15 rfl (Nat.le_of_ble_eq_true rfl) rfl ?_
    refine fr_aload_n (pc := 17) dX7_scanSign_17 rfl rfl ?_
    refine fr_iload_n (pc := 18) dX7_scanSign_18 rfl rfl ?_
    refine fr_iconst (pc := 19) dX7_scanSign_19 (by decide) ?_
    refine fr_icm_ne (tg := 28) (pc := 20) dX7_scanSign_20 rfl hq (fun hc6 hq => ?_) (fun hc6 hq => ?_)
    · refine fr_iload_n (pc := 23) dX7_scanSign_23 rfl rfl ?_
      refine fr_iconst (pc := 24) dX7_scanSign_24 (by decide) ?_
      refine fr_icm_eq (tg := 32) (pc := 25) dX7_scanSign_25 rfl hq (fun hc7 hq => ?_) (fun hc7 hq => ?_)
      · refine fr_iload (pc := 32) dX7_scanSign_32 rfl rfl ?_
        refine fr_ifcF (tg := 41) (pc := 34) dX7_scanSign_34 rfl rfl ?_
        refine fr_iconst (pc := 37) dX7_scanSign_37 (by decide) ?_
        refine fr_goto (tg := 42) (pc := 38) dX7_scanSign_38 rfl ?_
        refine fr_put (a := 70) (i := 4) (pc := 42) dX7_scanSign_42 rfl pf_7_40 rfl s0_70 rfl rfl nf_70_4 rfl ?_
        refine fr_aload_n (pc := 45) dX7_scanSign_45 rfl rfl ?_
        refine fr_iload_n (pc := 46) dX7_scanSign_46 rfl rfl ?_
        refine fr_iconst (pc := 47) dX7_scanSign_47 (by decide) ?_
        refine fr_icmT (tg := 55) (pc := 48) dX7_scanSign_48 (decide_eq_true hc6) rfl ?_
        refine fr_iload_n (pc := 55) dX7_scanSign_55 rfl rfl ?_
        refine fr_iconst (pc := 56) dX7_scanSign_56 (by decide) ?_
        refine fr_icmT (tg := 64) (pc := 57) dX7_scanSign_57 (decide_eq_true hc7) rfl ?_
        refine fr_iload_n (pc := 64) dX7_scanSign_64 rfl rfl ?_
        refine fr_put (a := 70) (i := 5) (pc := 65) dX7_scanSign_65 rfl pf_7_43 rfl s0_70 rfl rfl nf_70_5 rfl ?_
        refine fr_aload_n (pc := 68) dX7_scanSign_68 rfl rfl ?_
        refine fr_dup (pc := 69) dX7_scanSign_69 pm_t2 ?_
        refine fr_getf (a := 70) (i := 2) (v := gI M1 70 2) (t := 0) (pc := 70) dX7_scanSign_70 rfl pf_7_28 rfl s0_70 rfl ((gI_nf _ _ (by decide)).trans (gI_nf _ _ (by decide))) ?_
        refine fr_iload_n (pc := 73) dX7_scanSign_73 rfl rfl ?_
        refine fr_iconst (pc := 74) dX7_scanSign_74 (by decide) ?_
        refine fr_icmT (tg := 82) (pc := 75) dX7_scanSign_75 (decide_eq_true hc6) rfl ?_
        refine fr_iconst (pc := 82) dX7_scanSign_82 (by decide) ?_
        refine fr_iadd (z := w32 ((gI M1 70 2) + 1)) (pc := 83) dX7_scanSign_83 rfl ?_
        refine fr_put (a := 70) (i := 2) (pc := 84) dX7_scanSign_84 rfl pf_7_28 rfl s0_70 rfl rfl nf_70_2 rfl ?_
        exact fr_vret (pc := 87) dX7_scanSign_87 rfl hq
      · refine fr_iconst (pc := 28) dX7_scanSign_28 (by decide) ?_
        refine fr_goto (tg := 42) (pc := 29) dX7_scanSign_29 rfl ?_
        refine fr_put (a := 70) (i := 4) (pc := 42) dX7_scanSign_42 rfl pf_7_40 rfl s0_70 rfl rfl nf_70_4 rfl ?_
        refine fr_aload_n (pc := 45) dX7_scanSign_45 rfl rfl ?_
        refine fr_iload_n (pc := 46) dX7_scanSign_46 rfl rfl ?_
        refine fr_iconst (pc := 47) dX7_scanSign_47 (by decide) ?_
        refine fr_icmT (tg := 55) (pc := 48) dX7_scanSign_48 (decide_eq_true hc6) rfl ?_
        refine fr_iload_n (pc := 55) dX7_scanSign_55 rfl rfl ?_
        refine fr_iconst (pc := 56) dX7_scanSign_56 (by decide) ?_
        refine fr_icmF (tg := 64) (pc := 57) dX7_scanSign_57 (decide_eq_false hc7) rfl ?_
        refine fr_iload_n (pc := 60) dX7_scanSign_60 rfl rfl ?_
        refine fr_goto (tg := 65) (pc := 61) dX7_scanSign_61 rfl ?_
        refine fr_put (a := 70) (i := 5) (pc := 65) dX7_scanSign_65 rfl pf_7_43 rfl s0_70 rfl rfl nf_70_5 rfl ?_
        refine fr_aload_n (pc := 68) dX7_scanSign_68 rfl rfl ?_
        refine fr_dup (pc := 69) dX7_scanSign_69 pm_t2 ?_
        refine fr_getf (a := 70) (i := 2) (v := gI M1 70 2) (t := 0) (pc := 70) dX7_scanSign_70 rfl pf_7_28 rfl s0_70 rfl ((gI_nf _ _ (by decide)).trans (gI_nf _ _ (by decide))) ?_
        refine fr_iload_n (pc := 73) dX7_scanSign_73 rfl rfl ?_
        refine fr_iconst (pc := 74) dX7_scanSign_74 (by decide) ?_
        refine fr_icmT (tg := 82) (pc := 75) dX7_scanSign_75 (decide_eq_true hc6) rfl ?_
        refine fr_iconst (pc := 82) dX7_scanSign_82 (by decide) ?_
        refine fr_iadd (z := w32 ((gI M1 70 2) + 1)) (pc := 83) dX7_scanSign_83 rfl ?_
        refine fr_put (a := 70) (i := 2) (pc := 84) dX7_scanSign_84 rfl pf_7_28 rfl s0_70 rfl rfl nf_70_2 rfl ?_
        exact fr_vret (pc := 87) dX7_scanSign_87 rfl hq
    · refine fr_iconst (pc := 28) dX7_scanSign_28 (by decide) ?_
      refine fr_goto (tg := 42) (pc := 29) dX7_scanSign_29 rfl ?_
      refine fr_put (a := 70) (i := 4) (pc := 42) dX7_scanSign_42 rfl pf_7_40 rfl s0_70 rfl rfl nf_70_4 rfl ?_
      refine fr_aload_n (pc := 45) dX7_scanSign_45 rfl rfl ?_
      refine fr_iload_n (pc := 46) dX7_scanSign_46 rfl rfl ?_
      refine fr_iconst (pc := 47) dX7_scanSign_47 (by decide) ?_
      refine fr_icmF (tg := 55) (pc := 48) dX7_scanSign_48 (decide_eq_false hc6) rfl ?_
      refine fr_iload_n (pc := 51) dX7_scanSign_51 rfl rfl ?_
      refine fr_goto (tg := 65) (pc := 52) dX7_scanSign_52 rfl ?_
      refine fr_put (a := 70) (i := 5) (pc := 65) dX7_scanSign_65 rfl pf_7_43 rfl s0_70 rfl rfl nf_70_5 rfl ?_
      refine fr_aload_n (pc := 68) dX7_scanSign_68 rfl rfl ?_
      refine fr_dup (pc := 69) dX7_scanSign_69 pm_t2 ?_
      refine fr_getf (a := 70) (i := 2) (v := gI M1 70 2) (t := 0) (pc := 70) dX7_scanSign_70 rfl pf_7_28 rfl s0_70 rfl ((gI_nf _ _ (by decide)).trans (gI_nf _ _ (by decide))) ?_
      refine fr_iload_n (pc := 73) dX7_scanSign_73 rfl rfl ?_
      refine fr_iconst (pc := 74) dX7_scanSign_74 (by decide) ?_
      refine fr_icmF (tg := 82) (pc := 75) dX7_scanSign_75 (decide_eq_false hc6) rfl ?_
      refine fr_iconst (pc := 78) dX7_scanSign_78 (by decide) ?_
      refine fr_goto (tg := 83) (pc := 79) dX7_scanSign_79 rfl ?_
      refine fr_iadd (z := w32 ((gI M1 70 2) + 2)) (pc := 83) dX7_scanSign_83 rfl ?_
      refine fr_put (a := 70) (i := 2) (pc := 84) dX7_scanSign_84 rfl pf_7_28 rfl s0_70 rfl rfl nf_70_2 rfl ?_
      exact fr_vret (pc := 87) dX7_scanSign_87 rfl hq
theorem k4_readStatement_r {h : Nat} {o : Nat} {a1 a2 a3 : Int} {M : pm_M} {K : pm_M → Prop} (ho : o = 2 ∨ o = 36) (hh : 101 ≤ h) (hq : k4_statementKind M (fun r2 M1 => (if r2 = (-1) then (if gI M1 70 6 = 0 then K (upI (upI M1 70 6 (w32 ((w32 (8 * (gI M1 70 3))) + 1))) 70 4 1) else K M1) else (gI M1 71 1 = (o : Int) ∧ (if gI M1 o 16 < 20 then k7_variable M1 (fun r8 M7 => k0_addStatement o r2 r8 a1 a2 M7 (fun M9 => k7_advance M9 (fun M11 => (if r2 = 0 then k7_expectMark 61 M11 (fun M14 => k4_readSides 100 o 0 0 M14 (fun M16 => k7_expectMark 59 M16 (fun M18 => K M18))) else k4_readSides 100 o 0 0 M11 (fun M20 => (if r2 = 3 then k7_expectMark 59 M20 (fun M23 => K M23) else k4_readBlock (h - 1) o (gI M1 o 15) 0 a3 M20 (fun M25 => (if r2 = 1 then k7_isWord 6 M25 (fun r29 M28 => (if r29 = 0 then K M28 else k7_advance M28 (fun M31 => k4_readBlock (h - 1) o (gI M1 o 15) 1 a3 M31 (fun M33 => K M33)))) else K M25)))))))) else (if gI M1 70 6 = 0 then K (upI (upI M1 70 6 (w32 ((w32 (8 * (gI M1 70 3))) + 2))) 70 4 1) else K M1)))))) : k4_readStatement h o a1 a2 a3 M K := by
  intro sc d hd
  rcases ho with rfl | rfl
  · refine fr_aload_n (pc := 0) dX4_readStatement_0 rfl rfl ?_
    refine fr_inVI (a := 71) (as := []) (rest := []) (ls' := [(2, 71)]) (c1 := 0) (c2 := 0) (pc := 1) dX4_readStatement_1 pl_4_47 rfl ⟨Nat.le_of_ble_eq_true rfl, Nat.le_of_ble_eq_true rfl⟩ rfl rfl rfl s0_71 (Nat.le_of_ble_eq_true rfl) (by omega) rfl rfl (pm_zc _) (hq sc _ (by omega)) (fun r2 M1 hq => ?_)
    refine fr_istore (ls2 := [(2, 71), (0, a1), (0, a2), (0, a3), (0, r2), (9, 0)]) (pc := 4) dX4_readStatement_4 rfl (Nat.le_of_ble_eq_true rfl) rfl ?_
    refine fr_iload (pc := 6) dX4_readStatement_6 rfl rfl ?_
    refine fr_iconst (pc := 8) dX4_readStatement_8 (by decide) ?_
    refine fr_icm_eq (tg := 24) (pc := 9) dX4_readStatement_9 rfl hq (fun hc3 hq => ?_) (fun hc3 hq => ?_)
    · refine fr_aload_n (pc := 24) dX4_readStatement_24 rfl rfl ?_
      refine fr_getr (a := 71) (pc := 25) dX4_readStatement_25 rfl pf_4_9 s0_71 rfl rf_71_0 ?_
      refine fr_iload (pc := 28) dX4_readStatement_28 rfl rfl ?_
      refine fr_iconst (pc := 30) dX4_readStatement_30 (by decide) ?_
      refine fr_icmF (tg := 38) (pc := 31) dX4_readStatement_31 (decide_eq_false (fun z => z hc3)) rfl ?_
      refine fr_iconst (pc := 34) dX4_readStatement_34 (by decide) ?_
      refine fr_goto (tg := 39) (pc := 35) dX4_readStatement_35 rfl ?_
      refine fr_inVV (a := 70) (as := [(0, 1)]) (rest := []) (ls' := [(2, 70), (0, 1)]) (c1 := 0) (c2 := 0) (pc := 39) dX4_readStatement_39 pl_4_54 rfl ⟨Nat.le_of_ble_eq_true rfl, Nat.le_of_ble_eq_true rfl⟩ rfl rfl rfl s0_70 (Nat.le_of_ble_eq_true rfl) (by omega) rfl rfl (pm_zc _) ?_ (fun M' h => h)
      refine fr_aload_n (pc := 0) dX7_refuse_0 rfl rfl ?_
      refine fr_getf (a := 70) (i := 6) (v := gI M1 70 6) (t := 0) (pc := 1) dX7_refuse_1 rfl pf_7_31 rfl s0_70 rfl rfl ?_
      refine fr_ifc_ne (tg := 25) (pc := 4) dX7_refuse_4 rfl hq (fun hc4 hq => ?_) (fun hc4 hq => ?_)
      · refine fr_aload_n (pc := 7) dX7_refuse_7 rfl rfl ?_
        refine fr_bipush (pc := 8) dX7_refuse_8 (by decide) ?_
        refine fr_aload_n (pc := 10) dX7_refuse_10 rfl rfl ?_
        refine fr_getf (a := 70) (i := 3) (v := gI M1 70 3) (t := 0) (pc := 11) dX7_refuse_11 rfl pf_7_37 rfl s0_70 rfl rfl ?_
        refine fr_imul (z := w32 (8 * (gI M1 70 3))) (pc := 14) dX7_refuse_14 rfl ?_
        refine fr_iload_n (pc := 15) dX7_refuse_15 rfl rfl ?_
        refine fr_iadd (z := w32 ((w32 (8 * (gI M1 70 3))) + 1)) (pc := 16) dX7_refuse_16 rfl ?_
        refine fr_put (a := 70) (i := 6) (pc := 17) dX7_refuse_17 rfl pf_7_31 rfl s0_70 rfl rfl nf_70_6 rfl ?_
        refine fr_aload_n (pc := 20) dX7_refuse_20 rfl rfl ?_
        refine fr_iconst (pc := 21) dX7_refuse_21 (by decide) ?_
        refine fr_put (a := 70) (i := 4) (pc := 22) dX7_refuse_22 rfl pf_7_40 rfl s0_70 rfl rfl nf_70_4 rfl ?_
        refine fr_vret (pc := 25) dX7_refuse_25 rfl ?_
        exact fr_vret (pc := 42) dX4_readStatement_42 rfl hq
      · refine fr_vret (pc := 25) dX7_refuse_25 rfl ?_
        exact fr_vret (pc := 42) dX4_readStatement_42 rfl hq
    · refine fr_aload_n (pc := 12) dX4_readStatement_12 rfl rfl ?_
      obtain ⟨ho5, hq⟩ := hq
      refine fr_getf (a := 71) (i := 1) (v := 2) (t := 2) (pc := 13) dX4_readStatement_13 rfl pf_4_15 rfl s0_71 rfl ho5 ?_
      refine fr_getf (a := 2) (i := 16) (v := gI M1 2 16) (t := 0) (pc := 16) dX4_readStatement_16 rfl pf_4_51 rfl s0_2 rfl rfl ?_
      refine fr_bipush (pc := 19) dX4_readStatement_19 (by decide) ?_
      refine fr_icm_lt (tg := 43) (pc := 21) dX4_readStatement_21 rfl hq (fun hc6 hq => ?_) (fun hc6 hq => ?_)
      · refine fr_aload_n (pc := 43) dX4_readStatement_43 rfl rfl ?_
        refine fr_getf (a := 71) (i := 1) (v := 2) (t := 2) (pc := 44) dX4_readStatement_44 rfl pf_4_15 rfl s0_71 rfl ho5 ?_
        refine fr_getf (a := 2) (i := 15) (v := gI M1 2 15) (t := 0) (pc := 47) dX4_readStatement_47 rfl pf_4_41 rfl s0_2 rfl rfl ?_
        refine fr_istore (ls2 := [(2, 71), (0, a1), (0, a2), (0, a3), (0, r2), (0, gI M1 2 15)]) (pc := 50) dX4_readStatement_50 rfl (Nat.le_of_ble_eq_true rfl) rfl ?_
        refine fr_aload_n (pc := 52) dX4_readStatement_52 rfl rfl ?_
        refine fr_getf (a := 71) (i := 1) (v := 2) (t := 2) (pc := 53) dX4_readStatement_53 rfl pf_4_15 rfl s0_71 rfl ho5 ?_
        refine fr_iload (pc := 56) dX4_readStatement_56 rfl rfl ?_
        refine fr_aload_n (pc := 58) dX4_readStatement_58 rfl rfl ?_
        refine fr_getr (a := 71) (pc := 59) dX4_readStatement_59 rfl pf_4_9 s0_71 rfl rf_71_0 ?_
        refine fr_inVI (a := 70) (as := []) (rest := [(0, r2), (2, 2)]) (ls' := [(2, 70)]) (c1 := 0) (c2 := 0) (pc := 62) dX4_readStatement_62 pl_4_57 rfl ⟨Nat.le_of_ble_eq_true rfl, Nat.le_of_ble_eq_true rfl⟩ rfl rfl rfl s0_70 (Nat.le_of_ble_eq_true rfl) (by omega) rfl rfl (pm_zc _) (hq sc _ (by omega)) (fun r8 M7 hq => ?_)
        refine fr_iload_n (pc := 65) dX4_readStatement_65 rfl rfl ?_
        refine fr_iload_n (pc := 66) dX4_readStatement_66 rfl rfl ?_
        refine fr_inVV (a := 2) (as := [(0, r2), (0, r8), (0, a1), (0, a2)]) (rest := []) (ls' := [(2, 2), (0, r2), (0, r8), (0, a1), (0, a2)]) (c1 := 0) (c2 := 0) (pc := 67) dX4_readStatement_67 pl_4_60 rfl ⟨Nat.le_of_ble_eq_true rfl, Nat.le_of_ble_eq_true rfl⟩ rfl rfl rfl s0_2 (Nat.le_of_ble_eq_true rfl) (by omega) rfl rfl (pm_zc _) (hq sc _ (by omega)) (fun M9 hq => ?_)
        refine fr_aload_n (pc := 70) dX4_readStatement_70 rfl rfl ?_
        refine fr_getr (a := 71) (pc := 71) dX4_readStatement_71 rfl pf_4_9 s0_71 rfl rf_71_0 ?_
        refine fr_inVV (a := 70) (as := []) (rest := []) (ls' := [(2, 70), (9, 0)]) (c1 := 0) (c2 := 0) (pc := 74) dX4_readStatement_74 pl_4_64 rfl ⟨Nat.le_of_ble_eq_true rfl, Nat.le_of_ble_eq_true rfl⟩ rfl rfl rfl s0_70 (Nat.le_of_ble_eq_true rfl) (by omega) rfl rfl (pm_zc _) (hq sc _ (by omega)) (fun M11 hq => ?_)
        refine fr_iload (pc := 77) dX4_readStatement_77 rfl rfl ?_
        refine fr_ifc_ne (tg := 91) (pc := 79) dX4_readStatement_79 rfl hq (fun hc13 hq => ?_) (fun hc13 hq => ?_)
        · refine fr_aload_n (pc := 82) dX4_readStatement_82 rfl rfl ?_
          refine fr_getr (a := 71) (pc := 83) dX4_readStatement_83 rfl pf_4_9 s0_71 rfl rf_71_0 ?_
          refine fr_bipush (pc := 86) dX4_readStatement_86 (by decide) ?_
          refine fr_inVV (a := 70) (as := [(0, 61)]) (rest := []) (ls' := [(2, 70), (0, 61)]) (c1 := 0) (c2 := 0) (pc := 88) dX4_readStatement_88 pl_4_67 rfl ⟨Nat.le_of_ble_eq_true rfl, Nat.le_of_ble_eq_true rfl⟩ rfl rfl rfl s0_70 (Nat.le_of_ble_eq_true rfl) (by omega) rfl rfl (pm_zc _) (hq sc _ (by omega)) (fun M14 hq => ?_)
          refine fr_aload_n (pc := 91) dX4_readStatement_91 rfl rfl ?_
          refine fr_iconst (pc := 92) dX4_readStatement_92 (by decide) ?_
          refine fr_iconst (pc := 93) dX4_readStatement_93 (by decide) ?_
          refine fr_inVV (a := 71) (as := [(0, 0), (0, 0)]) (rest := []) (ls' := [(2, 71), (0, 0), (0, 0), (9, 0), (9, 0), (9, 0)]) (c1 := 0) (c2 := 0) (pc := 94) dX4_readStatement_94 pl_4_71 rfl ⟨Nat.le_of_ble_eq_true rfl, Nat.le_of_ble_eq_true rfl⟩ rfl rfl rfl s0_71 (Nat.le_of_ble_eq_true rfl) (by omega) rfl rfl (pm_zc _) (hq sc _ (by omega)) (fun M16 hq => ?_)
          refine fr_iload (pc := 97) dX4_readStatement_97 rfl rfl ?_
          refine fr_ifcT (tg := 108) (pc := 99) dX4_readStatement_99 (decide_eq_true hc13) rfl ?_
          refine fr_aload_n (pc := 108) dX4_readStatement_108 rfl rfl ?_
          refine fr_getr (a := 71) (pc := 109) dX4_readStatement_109 rfl pf_4_9 s0_71 rfl rf_71_0 ?_
          refine fr_bipush (pc := 112) dX4_readStatement_112 (by decide) ?_
          refine fr_inVV (a := 70) (as := [(0, 59)]) (rest := []) (ls' := [(2, 70), (0, 59)]) (c1 := 0) (c2 := 0) (pc := 114) dX4_readStatement_114 pl_4_67 rfl ⟨Nat.le_of_ble_eq_true rfl, Nat.le_of_ble_eq_true rfl⟩ rfl rfl rfl s0_70 (Nat.le_of_ble_eq_true rfl) (by omega) rfl rfl (pm_zc _) (hq sc _ (by omega)) (fun M18 hq => ?_)
          exact fr_vret (pc := 117) dX4_readStatement_117 rfl hq
        · refine fr_aload_n (pc := 91) dX4_readStatement_91 rfl rfl ?_
          refine fr_iconst (pc := 92) dX4_readStatement_92 (by decide) ?_
          refine fr_iconst (pc := 93) dX4_readStatement_93 (by decide) ?_
          refine fr_inVV (a := 71) (as := [(0, 0), (0, 0)]) (rest := []) (ls' := [(2, 71), (0, 0), (0, 0), (9, 0), (9, 0), (9, 0)]) (c1 := 0) (c2 := 0) (pc := 94) dX4_readStatement_94 pl_4_71 rfl ⟨Nat.le_of_ble_eq_true rfl, Nat.le_of_ble_eq_true rfl⟩ rfl rfl rfl s0_71 (Nat.le_of_ble_eq_true rfl) (by omega) rfl rfl (pm_zc _) (hq sc _ (by omega)) (fun M20 hq => ?_)
          refine fr_iload (pc := 97) dX4_readStatement_97 rfl rfl ?_
          refine fr_ifcF (tg := 108) (pc := 99) dX4_readStatement_99 (decide_eq_false hc13) rfl ?_
          refine fr_iload (pc := 102) dX4_readStatement_102 rfl rfl ?_
          refine fr_iconst (pc := 104) dX4_readStatement_104 (by decide) ?_
          refine fr_icm_ne (tg := 118) (pc := 105) dX4_readStatement_105 rfl hq (fun hc22 hq => ?_) (fun hc22 hq => ?_)
          · refine fr_aload_n (pc := 108) dX4_readStatement_108 rfl rfl ?_
            refine fr_getr (a := 71) (pc := 109) dX4_readStatement_109 rfl pf_4_9 s0_71 rfl rf_71_0 ?_
            refine fr_bipush (pc := 112) dX4_readStatement_112 (by decide) ?_
            refine fr_inVV (a := 70) (as := [(0, 59)]) (rest := []) (ls' := [(2, 70), (0, 59)]) (c1 := 0) (c2 := 0) (pc := 114) dX4_readStatement_114 pl_4_67 rfl ⟨Nat.le_of_ble_eq_true rfl, Nat.le_of_ble_eq_true rfl⟩ rfl rfl rfl s0_70 (Nat.le_of_ble_eq_true rfl) (by omega) rfl rfl (pm_zc _) (hq sc _ (by omega)) (fun M23 hq => ?_)
            exact fr_vret (pc := 117) dX4_readStatement_117 rfl hq
          · refine fr_aload_n (pc := 118) dX4_readStatement_118 rfl rfl ?_
            refine fr_iload (pc := 119) dX4_readStatement_119 rfl rfl ?_
            refine fr_iconst (pc := 121) dX4_readStatement_121 (by decide) ?_
            refine fr_iload_n (pc := 122) dX4_readStatement_122 rfl rfl ?_
            refine fr_inVV (a := 71) (as := [(0, gI M1 2 15), (0, 0), (0, a3)]) (rest := []) (ls' := [(2, 71), (0, gI M1 2 15), (0, 0), (0, a3), (9, 0)]) (c1 := 0) (c2 := 0) (pc := 123) dX4_readStatement_123 pl_4_75 rfl ⟨Nat.le_of_ble_eq_true rfl, Nat.le_of_ble_eq_true rfl⟩ rfl rfl rfl s0_71 (Nat.le_of_ble_eq_true rfl) (by omega) rfl rfl (pm_zc _) (hq sc _ (by omega)) (fun M25 hq => ?_)
            refine fr_iload (pc := 126) dX4_readStatement_126 rfl rfl ?_
            refine fr_iconst (pc := 128) dX4_readStatement_128 (by decide) ?_
            refine fr_icm_ne (tg := 159) (pc := 129) dX4_readStatement_129 rfl hq (fun hc27 hq => ?_) (fun hc27 hq => ?_)
            · refine fr_aload_n (pc := 132) dX4_readStatement_132 rfl rfl ?_
              refine fr_getr (a := 71) (pc := 133) dX4_readStatement_133 rfl pf_4_9 s0_71 rfl rf_71_0 ?_
              refine fr_ldcs (pc := 136) dX4_readStatement_136 rfl rfl ?_
              refine fr_inVI (a := 70) (as := [(3, 6)]) (rest := []) (ls' := [(2, 70), (3, 6), (9, 0)]) (c1 := 0) (c2 := 0) (pc := 138) dX4_readStatement_138 pl_4_80 rfl ⟨Nat.le_of_ble_eq_true rfl, Nat.le_of_ble_eq_true rfl⟩ rfl rfl rfl s0_70 (Nat.le_of_ble_eq_true rfl) (by omega) rfl rfl (pm_zc _) (hq sc _ (by omega)) (fun r29 M28 hq => ?_)
              refine fr_ifc_eq (tg := 159) (pc := 141) dX4_readStatement_141 rfl hq (fun hc30 hq => ?_) (fun hc30 hq => ?_)
              · exact fr_vret (pc := 159) dX4_readStatement_159 rfl hq
              · refine fr_aload_n (pc := 144) dX4_readStatement_144 rfl rfl ?_
                refine fr_getr (a := 71) (pc := 145) dX4_readStatement_145 rfl pf_4_9 s0_71 rfl rf_71_0 ?_
                refine fr_inVV (a := 70) (as := []) (rest := []) (ls' := [(2, 70), (9, 0)]) (c1 := 0) (c2 := 0) (pc := 148) dX4_readStatement_148 pl_4_64 rfl ⟨Nat.le_of_ble_eq_true rfl, Nat.le_of_ble_eq_true rfl⟩ rfl rfl rfl s0_70 (Nat.le_of_ble_eq_true rfl) (by omega) rfl rfl (pm_zc _) (hq sc _ (by omega)) (fun M31 hq => ?_)
                refine fr_aload_n (pc := 151) dX4_readStatement_151 rfl rfl ?_
                refine fr_iload (pc := 152) dX4_readStatement_152 rfl rfl ?_
                refine fr_iconst (pc := 154) dX4_readStatement_154 (by decide) ?_
                refine fr_iload_n (pc := 155) dX4_readStatement_155 rfl rfl ?_
                refine fr_inVV (a := 71) (as := [(0, gI M1 2 15), (0, 1), (0, a3)]) (rest := []) (ls' := [(2, 71), (0, gI M1 2 15), (0, 1), (0, a3), (9, 0)]) (c1 := 0) (c2 := 0) (pc := 156) dX4_readStatement_156 pl_4_75 rfl ⟨Nat.le_of_ble_eq_true rfl, Nat.le_of_ble_eq_true rfl⟩ rfl rfl rfl s0_71 (Nat.le_of_ble_eq_true rfl) (by omega) rfl rfl (pm_zc _) (hq sc _ (by omega)) (fun M33 hq => ?_)
                exact fr_vret (pc := 159) dX4_readStatement_159 rfl hq
            · exact fr_vret (pc := 159) dX4_readStatement_159 rfl hq
      · refine fr_aload_n (pc := 24) dX4_readStatement_24 rfl rfl ?_
        refine fr_getr (a := 71) (pc := 25) dX4_readStatement_25 rfl pf_4_9 s0_71 rfl rf_71_0 ?_
        refine fr_iload (pc := 28) dX4_readStatement_28 rfl rfl ?_
        refine fr_iconst (pc := 30) dX4_readStatement_30 (by decide) ?_
        refine fr_icmT (tg := 38) (pc := 31) dX4_readStatement_31 (decide_eq_true hc3) rfl ?_
        refine fr_iconst (pc := 38) dX4_readStatement_38 (by decide) ?_
        refine fr_inVV (a := 70) (as := [(0, 2)]) (rest := []) (ls' := [(2, 70), (0, 2)]) (c1 := 0) (c2 := 0) (pc := 39) dX4_readStatement_39 pl_4_54 rfl ⟨Nat.le_of_ble_eq_true rfl, Nat.le_of_ble_eq_true rfl⟩ rfl rfl rfl s0_70 (Nat.le_of_ble_eq_true rfl) (by omega) rfl rfl (pm_zc _) ?_ (fun M' h => h)
        refine fr_aload_n (pc := 0) dX7_refuse_0 rfl rfl ?_
        refine fr_getf (a := 70) (i := 6) (v := gI M1 70 6) (t := 0) (pc := 1) dX7_refuse_1 rfl pf_7_31 rfl s0_70 rfl rfl ?_
        refine fr_ifc_ne (tg := 25) (pc := 4) dX7_refuse_4 rfl hq (fun hc35 hq => ?_) (fun hc35 hq => ?_)
        · refine fr_aload_n (pc := 7) dX7_refuse_7 rfl rfl ?_
          refine fr_bipush (pc := 8) dX7_refuse_8 (by decide) ?_
          refine fr_aload_n (pc := 10) dX7_refuse_10 rfl rfl ?_
          refine fr_getf (a := 70) (i := 3) (v := gI M1 70 3) (t := 0) (pc := 11) dX7_refuse_11 rfl pf_7_37 rfl s0_70 rfl rfl ?_
          refine fr_imul (z := w32 (8 * (gI M1 70 3))) (pc := 14) dX7_refuse_14 rfl ?_
          refine fr_iload_n (pc := 15) dX7_refuse_15 rfl rfl ?_
          refine fr_iadd (z := w32 ((w32 (8 * (gI M1 70 3))) + 2)) (pc := 16) dX7_refuse_16 rfl ?_
          refine fr_put (a := 70) (i := 6) (pc := 17) dX7_refuse_17 rfl pf_7_31 rfl s0_70 rfl rfl nf_70_6 rfl ?_
          refine fr_aload_n (pc := 20) dX7_refuse_20 rfl rfl ?_
          refine fr_iconst (pc := 21) dX7_refuse_21 (by decide) ?_
          refine fr_put (a := 70) (i := 4) (pc := 22) dX7_refuse_22 rfl pf_7_40 rfl s0_70 rfl rfl nf_70_4 rfl ?_
          refine fr_vret (pc := 25) dX7_refuse_25 rfl ?_
          exact fr_vret (pc := 42) dX4_readStatement_42 rfl hq
        · refine fr_vret (pc := 25) dX7_refuse_25 rfl ?_
          exact fr_vret (pc := 42) dX4_readStatement_42 rfl hq
  · refine fr_aload_n (pc := 0) dX4_readStatement_0 rfl rfl ?_
    refine fr_inVI (a := 71) (as := []) (rest := []) (ls' := [(2, 71)]) (c1 := 0) (c2 := 0) (pc := 1) dX4_readStatement_1 pl_4_47 rfl ⟨Nat.le_of_ble_eq_true rfl, Nat.le_of_ble_eq_true rfl⟩ rfl rfl rfl s0_71 (Nat.le_of_ble_eq_true rfl) (by omega) rfl rfl (pm_zc _) (hq sc _ (by omega)) (fun r2 M1 hq => ?_)
    refine fr_istore (ls2 := [(2, 71), (0, a1), (0, a2), (0, a3), (0, r2), (9, 0)]) (pc := 4) dX4_readStatement_4 rfl (Nat.le_of_ble_eq_true rfl) rfl ?_
    refine fr_iload (pc := 6) dX4_readStatement_6 rfl rfl ?_
    refine fr_iconst (pc := 8) dX4_readStatement_8 (by decide) ?_
    refine fr_icm_eq (tg := 24) (pc := 9) dX4_readStatement_9 rfl hq (fun hc3 hq => ?_) (fun hc3 hq => ?_)
    · refine fr_aload_n (pc := 24) dX4_readStatement_24 rfl rfl ?_
      refine fr_getr (a := 71) (pc := 25) dX4_readStatement_25 rfl pf_4_9 s0_71 rfl rf_71_0 ?_
      refine fr_iload (pc := 28) dX4_readStatement_28 rfl rfl ?_
      refine fr_iconst (pc := 30) dX4_readStatement_30 (by decide) ?_
      refine fr_icmF (tg := 38) (pc := 31) dX4_readStatement_31 (decide_eq_false (fun z => z hc3)) rfl ?_
      refine fr_iconst (pc := 34) dX4_readStatement_34 (by decide) ?_
      refine fr_goto (tg := 39) (pc := 35) dX4_readStatement_35 rfl ?_
      refine fr_inVV (a := 70) (as := [(0, 1)]) (rest := []) (ls' := [(2, 70), (0, 1)]) (c1 := 0) (c2 := 0) (pc := 39) dX4_readStatement_39 pl_4_54 rfl ⟨Nat.le_of_ble_eq_true rfl, Nat.le_of_ble_eq_true rfl⟩ rfl rfl rfl s0_70 (Nat.le_of_ble_eq_true rfl) (by omega) rfl rfl (pm_zc _) ?_ (fun M' h => h)
      refine fr_aload_n (pc := 0) dX7_refuse_0 rfl rfl ?_
      refine fr_getf (a := 70) (i := 6) (v := gI M1 70 6) (t := 0) (pc := 1) dX7_refuse_1 rfl pf_7_31 rfl s0_70 rfl rfl ?_
      refine fr_ifc_ne (tg := 25) (pc := 4) dX7_refuse_4 rfl hq (fun hc4 hq => ?_) (fun hc4 hq => ?_)
      · refine fr_aload_n (pc := 7) dX7_refuse_7 rfl rfl ?_
        refine fr_bipush (pc := 8) dX7_refuse_8 (by decide) ?_
        refine fr_aload_n (pc := 10) dX7_refuse_10 rfl rfl ?_
        refine fr_getf (a := 70) (i := 3) (v := gI M1 70 3) (t := 0) (pc := 11) dX7_refuse_11 rfl pf_7_37 rfl s0_70 rfl rfl ?_
        refine fr_imul (z := w32 (8 * (gI M1 70 3))) (pc := 14) dX7_refuse_14 rfl ?_
        refine fr_iload_n (pc := 15) dX7_refuse_15 rfl rfl ?_
        refine fr_iadd (z := w32 ((w32 (8 * (gI M1 70 3))) + 1)) (pc := 16) dX7_refuse_16 rfl ?_
        refine fr_put (a := 70) (i := 6) (pc := 17) dX7_refuse_17 rfl pf_7_31 rfl s0_70 rfl rfl nf_70_6 rfl ?_
        refine fr_aload_n (pc := 20) dX7_refuse_20 rfl rfl ?_
        refine fr_iconst (pc := 21) dX7_refuse_21 (by decide) ?_
        refine fr_put (a := 70) (i := 4) (pc := 22) dX7_refuse_22 rfl pf_7_40 rfl s0_70 rfl rfl nf_70_4 rfl ?_
        refine fr_vret (pc := 25) dX7_refuse_25 rfl ?_
        exact fr_vret (pc := 42) dX4_readStatement_42 rfl hq
      · refine fr_vret (pc := 25) dX7_refuse_25 rfl ?_
        exact fr_vret (pc := 42) dX4_readStatement_42 rfl hq
    · refine fr_aload_n (pc := 12) dX4_readStatement_12 rfl rfl ?_
      obtain ⟨ho5, hq⟩ := hq
      refine fr_getf (a := 71) (i := 1) (v := 36) (t := 2) (pc := 13) dX4_readStatement_13 rfl pf_4_15 rfl s0_71 rfl ho5 ?_
      refine fr_getf (a := 36) (i := 16) (v := gI M1 36 16) (t := 0) (pc := 16) dX4_readStatement_16 rfl pf_4_51 rfl s0_36 rfl rfl ?_
      refine fr_bipush (pc := 19) dX4_readStatement_19 (by decide) ?_
      refine fr_icm_lt (tg := 43) (pc := 21) dX4_readStatement_21 rfl hq (fun hc6 hq => ?_) (fun hc6 hq => ?_)
      · refine fr_aload_n (pc := 43) dX4_readStatement_43 rfl rfl ?_
        refine fr_getf (a := 71) (i := 1) (v := 36) (t := 2) (pc := 44) dX4_readStatement_44 rfl pf_4_15 rfl s0_71 rfl ho5 ?_
        refine fr_getf (a := 36) (i := 15) (v := gI M1 36 15) (t := 0) (pc := 47) dX4_readStatement_47 rfl pf_4_41 rfl s0_36 rfl rfl ?_
        refine fr_istore (ls2 := [(2, 71), (0, a1), (0, a2), (0, a3), (0, r2), (0, gI M1 36 15)]) (pc := 50) dX4_readStatement_50 rfl (Nat.le_of_ble_eq_true rfl) rfl ?_
        refine fr_aload_n (pc := 52) dX4_readStatement_52 rfl rfl ?_
        refine fr_getf (a := 71) (i := 1) (v := 36) (t := 2) (pc := 53) dX4_readStatement_53 rfl pf_4_15 rfl s0_71 rfl ho5 ?_
        refine fr_iload (pc := 56) dX4_readStatement_56 rfl rfl ?_
        refine fr_aload_n (pc := 58) dX4_readStatement_58 rfl rfl ?_
        refine fr_getr (a := 71) (pc := 59) dX4_readStatement_59 rfl pf_4_9 s0_71 rfl rf_71_0 ?_
        refine fr_inVI (a := 70) (as := []) (rest := [(0, r2), (2, 36)]) (ls' := [(2, 70)]) (c1 := 0) (c2 := 0) (pc := 62) dX4_readStatement_62 pl_4_57 rfl ⟨Nat.le_of_ble_eq_true rfl, Nat.le_of_ble_eq_true rfl⟩ rfl rfl rfl s0_70 (Nat.le_of_ble_eq_true rfl) (by omega) rfl rfl (pm_zc _) (hq sc _ (by omega)) (fun r8 M7 hq => ?_)
        refine fr_iload_n (pc := 65) dX4_readStatement_65 rfl rfl ?_
        refine fr_iload_n (pc := 66) dX4_readStatement_66 rfl rfl ?_
        refine fr_inVV (a := 36) (as := [(0, r2), (0, r8), (0, a1), (0, a2)]) (rest := []) (ls' := [(2, 36), (0, r2), (0, r8), (0, a1), (0, a2)]) (c1 := 0) (c2 := 0) (pc := 67) dX4_readStatement_67 pl_4_60 rfl ⟨Nat.le_of_ble_eq_true rfl, Nat.le_of_ble_eq_true rfl⟩ rfl rfl rfl s0_36 (Nat.le_of_ble_eq_true rfl) (by omega) rfl rfl (pm_zc _) (hq sc _ (by omega)) (fun M9 hq => ?_)
        refine fr_aload_n (pc := 70) dX4_readStatement_70 rfl rfl ?_
        refine fr_getr (a := 71) (pc := 71) dX4_readStatement_71 rfl pf_4_9 s0_71 rfl rf_71_0 ?_
        refine fr_inVV (a := 70) (as := []) (rest := []) (ls' := [(2, 70), (9, 0)]) (c1 := 0) (c2 := 0) (pc := 74) dX4_readStatement_74 pl_4_64 rfl ⟨Nat.le_of_ble_eq_true rfl, Nat.le_of_ble_eq_true rfl⟩ rfl rfl rfl s0_70 (Nat.le_of_ble_eq_true rfl) (by omega) rfl rfl (pm_zc _) (hq sc _ (by omega)) (fun M11 hq => ?_)
        refine fr_iload (pc := 77) dX4_readStatement_77 rfl rfl ?_
        refine fr_ifc_ne (tg := 91) (pc := 79) dX4_readStatement_79 rfl hq (fun hc13 hq => ?_) (fun hc13 hq => ?_)
        · refine fr_aload_n (pc := 82) dX4_readStatement_82 rfl rfl ?_
          refine fr_getr (a := 71) (pc := 83) dX4_readStatement_83 rfl pf_4_9 s0_71 rfl rf_71_0 ?_
          refine fr_bipush (pc := 86) dX4_readStatement_86 (by decide) ?_
          refine fr_inVV (a := 70) (as := [(0, 61)]) (rest := []) (ls' := [(2, 70), (0, 61)]) (c1 := 0) (c2 := 0) (pc := 88) dX4_readStatement_88 pl_4_67 rfl ⟨Nat.le_of_ble_eq_true rfl, Nat.le_of_ble_eq_true rfl⟩ rfl rfl rfl s0_70 (Nat.le_of_ble_eq_true rfl) (by omega) rfl rfl (pm_zc _) (hq sc _ (by omega)) (fun M14 hq => ?_)
          refine fr_aload_n (pc := 91) dX4_readStatement_91 rfl rfl ?_
          refine fr_iconst (pc := 92) dX4_readStatement_92 (by decide) ?_
          refine fr_iconst (pc := 93) dX4_readStatement_93 (by decide) ?_
          refine fr_inVV (a := 71) (as := [(0, 0), (0, 0)]) (rest := []) (ls' := [(2, 71), (0, 0), (0, 0), (9, 0), (9, 0), (9, 0)]) (c1 := 0) (c2 := 0) (pc := 94) dX4_readStatement_94 pl_4_71 rfl ⟨Nat.le_of_ble_eq_true rfl, Nat.le_of_ble_eq_true rfl⟩ rfl rfl rfl s0_71 (Nat.le_of_ble_eq_true rfl) (by omega) rfl rfl (pm_zc _) (hq sc _ (by omega)) (fun M16 hq => ?_)
          refine fr_iload (pc := 97) dX4_readStatement_97 rfl rfl ?_
          refine fr_ifcT (tg := 108) (pc := 99) dX4_readStatement_99 (decide_eq_true hc13) rfl ?_
          refine fr_aload_n (pc := 108) dX4_readStatement_108 rfl rfl ?_
          refine fr_getr (a := 71) (pc := 109) dX4_readStatement_109 rfl pf_4_9 s0_71 rfl rf_71_0 ?_
          refine fr_bipush (pc := 112) dX4_readStatement_112 (by decide) ?_
          refine fr_inVV (a := 70) (as := [(0, 59)]) (rest := []) (ls' := [(2, 70), (0, 59)]) (c1 := 0) (c2 := 0) (pc := 114) dX4_readStatement_114 pl_4_67 rfl ⟨Nat.le_of_ble_eq_true rfl, Nat.le_of_ble_eq_true rfl⟩ rfl rfl rfl s0_70 (Nat.le_of_ble_eq_true rfl) (by omega) rfl rfl (pm_zc _) (hq sc _ (by omega)) (fun M18 hq => ?_)
          exact fr_vret (pc := 117) dX4_readStatement_117 rfl hq
        · refine fr_aload_n (pc := 91) dX4_readStatement_91 rfl rfl ?_
          refine fr_iconst (pc := 92) dX4_readStatement_92 (by decide) ?_
          refine fr_iconst (pc := 93) dX4_readStatement_93 (by decide) ?_
          refine fr_inVV (a := 71) (as := [(0, 0), (0, 0)]) (rest := []) (ls' := [(2, 71), (0, 0), (0, 0), (9, 0), (9, 0), (9, 0)]) (c1 := 0) (c2 := 0) (pc := 94) dX4_readStatement_94 pl_4_71 rfl ⟨Nat.le_of_ble_eq_true rfl, Nat.le_of_ble_eq_true rfl⟩ rfl rfl rfl s0_71 (Nat.le_of_ble_eq_true rfl) (by omega) rfl rfl (pm_zc _) (hq sc _ (by omega)) (fun M20 hq => ?_)
          refine fr_iload (pc := 97) dX4_readStatement_97 rfl rfl ?_
          refine fr_ifcF (tg := 108) (pc := 99) dX4_readStatement_99 (decide_eq_false hc13) rfl ?_
          refine fr_iload (pc := 102) dX4_readStatement_102 rfl rfl ?_
          refine fr_iconst (pc := 104) dX4_readStatement_104 (by decide) ?_
          refine fr_icm_ne (tg := 118) (pc := 105) dX4_readStatement_105 rfl hq (fun hc22 hq => ?_) (fun hc22 hq => ?_)
          · refine fr_aload_n (pc := 108) dX4_readStatement_108 rfl rfl ?_
            refine fr_getr (a := 71) (pc := 109) dX4_readStatement_109 rfl pf_4_9 s0_71 rfl rf_71_0 ?_
            refine fr_bipush (pc := 112) dX4_readStatement_112 (by decide) ?_
            refine fr_inVV (a := 70) (as := [(0, 59)]) (rest := []) (ls' := [(2, 70), (0, 59)]) (c1 := 0) (c2 := 0) (pc := 114) dX4_readStatement_114 pl_4_67 rfl ⟨Nat.le_of_ble_eq_true rfl, Nat.le_of_ble_eq_true rfl⟩ rfl rfl rfl s0_70 (Nat.le_of_ble_eq_true rfl) (by omega) rfl rfl (pm_zc _) (hq sc _ (by omega)) (fun M23 hq => ?_)
            exact fr_vret (pc := 117) dX4_readStatement_117 rfl hq
          · refine fr_aload_n (pc := 118) dX4_readStatement_118 rfl rfl ?_
            refine fr_iload (pc := 119) dX4_readStatement_119 rfl rfl ?_
            refine fr_iconst (pc := 121) dX4_readStatement_121 (by decide) ?_
            refine fr_iload_n (pc := 122) dX4_readStatement_122 rfl rfl ?_
            refine fr_inVV (a := 71) (as := [(0, gI M1 36 15), (0, 0), (0, a3)]) (rest := []) (ls' := [(2, 71), (0, gI M1 36 15), (0, 0), (0, a3), (9, 0)]) (c1 := 0) (c2 := 0) (pc := 123) dX4_readStatement_123 pl_4_75 rfl ⟨Nat.le_of_ble_eq_true rfl, Nat.le_of_ble_eq_true rfl⟩ rfl rfl rfl s0_71 (Nat.le_of_ble_eq_true rfl) (by omega) rfl rfl (pm_zc _) (hq sc _ (by omega)) (fun M25 hq => ?_)
            refine fr_iload (pc := 126) dX4_readStatement_126 rfl rfl ?_
            refine fr_iconst (pc := 128) dX4_readStatement_128 (by decide) ?_
            refine fr_icm_ne (tg := 159) (pc := 129) dX4_readStatement_129 rfl hq (fun hc27 hq => ?_) (fun hc27 hq => ?_)
            · refine fr_aload_n (pc := 132) dX4_readStatement_132 rfl rfl ?_
              refine fr_getr (a := 71) (pc := 133) dX4_readStatement_133 rfl pf_4_9 s0_71 rfl rf_71_0 ?_
              refine fr_ldcs (pc := 136) dX4_readStatement_136 rfl rfl ?_
              refine fr_inVI (a := 70) (as := [(3, 6)]) (rest := []) (ls' := [(2, 70), (3, 6), (9, 0)]) (c1 := 0) (c2 := 0) (pc := 138) dX4_readStatement_138 pl_4_80 rfl ⟨Nat.le_of_ble_eq_true rfl, Nat.le_of_ble_eq_true rfl⟩ rfl rfl rfl s0_70 (Nat.le_of_ble_eq_true rfl) (by omega) rfl rfl (pm_zc _) (hq sc _ (by omega)) (fun r29 M28 hq => ?_)
              refine fr_ifc_eq (tg := 159) (pc := 141) dX4_readStatement_141 rfl hq (fun hc30 hq => ?_) (fun hc30 hq => ?_)
              · exact fr_vret (pc := 159) dX4_readStatement_159 rfl hq
              · refine fr_aload_n (pc := 144) dX4_readStatement_144 rfl rfl ?_
                refine fr_getr (a := 71) (pc := 145) dX4_readStatement_145 rfl pf_4_9 s0_71 rfl rf_71_0 ?_
                refine fr_inVV (a := 70) (as := []) (rest := []) (ls' := [(2, 70), (9, 0)]) (c1 := 0) (c2 := 0) (pc := 148) dX4_readStatement_148 pl_4_64 rfl ⟨Nat.le_of_ble_eq_true rfl, Nat.le_of_ble_eq_true rfl⟩ rfl rfl rfl s0_70 (Nat.le_of_ble_eq_true rfl) (by omega) rfl rfl (pm_zc _) (hq sc _ (by omega)) (fun M31 hq => ?_)
                refine fr_aload_n (pc := 151) dX4_readStatement_151 rfl rfl ?_
                refine fr_iload (pc := 152) dX4_readStatement_152 rfl rfl ?_
                refine fr_iconst (pc := 154) dX4_readStatement_154 (by decide) ?_
                refine fr_iload_n (pc := 155) dX4_readStatement_155 rfl rfl ?_
                refine fr_inVV (a := 71) (as := [(0, gI M1 36 15), (0, 1), (0, a3)]) (rest := []) (ls' := [(2, 71), (0, gI M1 36 15), (0, 1), (0, a3), (9, 0)]) (c1 := 0) (c2 := 0) (pc := 156) dX4_readStatement_156 pl_4_75 rfl ⟨Nat.le_of_ble_eq_true rfl, Nat.le_of_ble_eq_true rfl⟩ rfl rfl rfl s0_71 (Nat.le_of_ble_eq_true rfl) (by omega) rfl rfl (pm_zc _) (hq sc _ (by omega)) (fun M33 hq => ?_)
                exact fr_vret (pc := 159) dX4_readStatement_159 rfl hq
            · exact fr_vret (pc := 159) dX4_readStatement_159 rfl hq
      · refine fr_aload_n (pc := 24) dX4_readStatement_24 rfl rfl ?_
        refine fr_getr (a := 71) (pc := 25) dX4_readStatement_25 rfl pf_4_9 s0_71 rfl rf_71_0 ?_
        refine fr_iload (pc := 28) dX4_readStatement_28 rfl rfl ?_
        refine fr_iconst (pc := 30) dX4_readStatement_30 (by decide) ?_
        refine fr_icmT (tg := 38) (pc := 31) dX4_readStatement_31 (decide_eq_true hc3) rfl ?_
        refine fr_iconst (pc := 38) dX4_readStatement_38 (by decide) ?_
        refine fr_inVV (a := 70) (as := [(0, 2)]) (rest := []) (ls' := [(2, 70), (0, 2)]) (c1 := 0) (c2 := 0) (pc := 39) dX4_readStatement_39 pl_4_54 rfl ⟨Nat.le_of_ble_eq_true rfl, Nat.le_of_ble_eq_true rfl⟩ rfl rfl rfl s0_70 (Nat.le_of_ble_eq_true rfl) (by omega) rfl rfl (pm_zc _) ?_ (fun M' h => h)
        refine fr_aload_n (pc := 0) dX7_refuse_0 rfl rfl ?_
        refine fr_getf (a := 70) (i := 6) (v := gI M1 70 6) (t := 0) (pc := 1) dX7_refuse_1 rfl pf_7_31 rfl s0_70 rfl rfl ?_
        refine fr_ifc_ne (tg := 25) (pc := 4) dX7_refuse_4 rfl hq (fun hc35 hq => ?_) (fun hc35 hq => ?_)
        · refine fr_aload_n (pc := 7) dX7_refuse_7 rfl rfl ?_
          refine fr_bipush (pc := 8) dX7_refuse_8 (by decide) ?_
          refine fr_aload_n (pc := 10) dX7_refuse_10 rfl rfl ?_
          refine fr_getf (a := 70) (i := 3) (v := gI M1 70 3) (t := 0) (pc := 11) dX7_refuse_11 rfl pf_7_37 rfl s0_70 rfl rfl ?_
          refine fr_imul (z := w32 (8 * (gI M1 70 3))) (pc := 14) dX7_refuse_14 rfl ?_
          refine fr_iload_n (pc := 15) dX7_refuse_15 rfl rfl ?_
          refine fr_iadd (z := w32 ((w32 (8 * (gI M1 70 3))) + 2)) (pc := 16) dX7_refuse_16 rfl ?_
          refine fr_put (a := 70) (i := 6) (pc := 17) dX7_refuse_17 rfl pf_7_31 rfl s0_70 rfl rfl nf_70_6 rfl ?_
          refine fr_aload_n (pc := 20) dX7_refuse_20 rfl rfl ?_
          refine fr_iconst (pc := 21) dX7_refuse_21 (by decide) ?_
          refine fr_put (a := 70) (i := 4) (pc := 22) dX7_refuse_22 rfl pf_7_40 rfl s0_70 rfl rfl nf_70_4 rfl ?_
          refine fr_vret (pc := 25) dX7_refuse_25 rfl ?_
          exact fr_vret (pc := 42) dX4_readStatement_42 rfl hq
        · refine fr_vret (pc := 25) dX7_refuse_25 rfl ?_
          exact fr_vret (pc := 42) dX4_readStatement_42 rfl hq
theorem k4_statementKind_r {M : pm_M} {K : Int → pm_M → Prop} (hq : k7_variable M (fun r2 M1 => (if r2 = (-1) then k7_isWord 3 M1 (fun r5 M4 => (if r5 = 0 then k7_isWord 4 M4 (fun r8 M7 => (if r8 = 0 then k7_isWord 5 M7 (fun r11 M10 => (if r11 = 0 then K (-1) M10 else K 3 M10)) else K 2 M7)) else K 1 M4)) else K 0 M1))) : k4_statementKind M K := by
  intro sc d hd
  refine fr_aload_n (pc := 0) dX4_statementKind_0 rfl rfl ?_
  refine fr_getr (a := 71) (pc := 1) dX4_statementKind_1 rfl pf_4_9 s0_71 rfl rf_71_0 ?_
  refine fr_inVI (a := 70) (as := []) (rest := []) (ls' := [(2, 70)]) (c1 := 0) (c2 := 0) (pc := 4) dX4_statementKind_4 pl_4_57 rfl ⟨Nat.le_of_ble_eq_true rfl, Nat.le_of_ble_eq_true rfl⟩ rfl rfl rfl s0_70 (Nat.le_of_ble_eq_true rfl) (by omega) rfl rfl (pm_zc _) (hq sc _ (by omega)) (fun r2 M1 hq => ?_)
  refine fr_iconst (pc := 7) dX4_statementKind_7 (by decide) ?_
  refine fr_icm_eq (tg := 13) (pc := 8) dX4_statementKind_8 rfl hq (fun hc3 hq => ?_) (fun hc3 hq => ?_)
  · refine fr_aload_n (pc := 13) dX4_statementKind_13 rfl rfl ?_
    refine fr_getr (a := 71) (pc := 14) dX4_statementKind_14 rfl pf_4_9 s0_71 rfl rf_71_0 ?_
    refine fr_ldcs (pc := 17) dX4_statementKind_17 rfl rfl ?_
    refine fr_inVI (a := 70) (as := [(3, 3)]) (rest := []) (ls' := [(2, 70), (3, 3), (9, 0)]) (c1 := 0) (c2 := 0) (pc := 19) dX4_statementKind_19 pl_4_80 rfl ⟨Nat.le_of_ble_eq_true rfl, Nat.le_of_ble_eq_true rfl⟩ rfl rfl rfl s0_70 (Nat.le_of_ble_eq_true rfl) (by omega) rfl rfl (pm_zc _) (hq sc _ (by omega)) (fun r5 M4 hq => ?_)
    refine fr_ifc_eq (tg := 27) (pc := 22) dX4_statementKind_22 rfl hq (fun hc6 hq => ?_) (fun hc6 hq => ?_)
    · refine fr_aload_n (pc := 27) dX4_statementKind_27 rfl rfl ?_
      refine fr_getr (a := 71) (pc := 28) dX4_statementKind_28 rfl pf_4_9 s0_71 rfl rf_71_0 ?_
      refine fr_ldcs (pc := 31) dX4_statementKind_31 rfl rfl ?_
      refine fr_inVI (a := 70) (as := [(3, 4)]) (rest := []) (ls' := [(2, 70), (3, 4), (9, 0)]) (c1 := 0) (c2 := 0) (pc := 33) dX4_statementKind_33 pl_4_80 rfl ⟨Nat.le_of_ble_eq_true rfl, Nat.le_of_ble_eq_true rfl⟩ rfl rfl rfl s0_70 (Nat.le_of_ble_eq_true rfl) (by omega) rfl rfl (pm_zc _) (hq sc _ (by omega)) (fun r8 M7 hq => ?_)
      refine fr_ifc_eq (tg := 41) (pc := 36) dX4_statementKind_36 rfl hq (fun hc9 hq => ?_) (fun hc9 hq => ?_)
      · refine fr_aload_n (pc := 41) dX4_statementKind_41 rfl rfl ?_
        refine fr_getr (a := 71) (pc := 42) dX4_statementKind_42 rfl pf_4_9 s0_71 rfl rf_71_0 ?_
        refine fr_ldcs (pc := 45) dX4_statementKind_45 rfl rfl ?_
        refine fr_inVI (a := 70) (as := [(3, 5)]) (rest := []) (ls' := [(2, 70), (3, 5), (9, 0)]) (c1 := 0) (c2 := 0) (pc := 47) dX4_statementKind_47 pl_4_80 rfl ⟨Nat.le_of_ble_eq_true rfl, Nat.le_of_ble_eq_true rfl⟩ rfl rfl rfl s0_70 (Nat.le_of_ble_eq_true rfl) (by omega) rfl rfl (pm_zc _) (hq sc _ (by omega)) (fun r11 M10 hq => ?_)
        refine fr_ifc_eq (tg := 57) (pc := 50) dX4_statementKind_50 rfl hq (fun hc12 hq => ?_) (fun hc12 hq => ?_)
        · refine fr_iconst (pc := 57) dX4_statementKind_57 (by decide) ?_
          exact fr_iret (pc := 58) dX4_statementKind_58 (Or.inl rfl) hq
        · refine fr_iconst (pc := 53) dX4_statementKind_53 (by decide) ?_
          refine fr_goto (tg := 58) (pc := 54) dX4_statementKind_54 rfl ?_
          exact fr_iret (pc := 58) dX4_statementKind_58 (Or.inl rfl) hq
      · refine fr_iconst (pc := 39) dX4_statementKind_39 (by decide) ?_
        exact fr_iret (pc := 40) dX4_statementKind_40 (Or.inl rfl) hq
    · refine fr_iconst (pc := 25) dX4_statementKind_25 (by decide) ?_
      exact fr_iret (pc := 26) dX4_statementKind_26 (Or.inl rfl) hq
  · refine fr_iconst (pc := 11) dX4_statementKind_11 (by decide) ?_
    exact fr_iret (pc := 12) dX4_statementKind_12 (Or.inl rfl) hq
theorem k7_variable_r {M : pm_M} {K : Int → pm_M → Prop} (hq : (if gI M 70 4 = 2 then (if w32 ((gI M 70 2) - (gI M 70 3)) = 1 then (if gI M 70 3 < 0 then kJ0_indexOf_0f7a4 2 0 M (fun r5 M4 => K r5 M4) else (if gI M 70 3 < gI M 70 1 then ((0 ≤ gI M 70 3 ∧ gI M 70 3 < 600) ∧ kJ0_indexOf_0f7a4 2 ((pm_iand (gI M 1 (gI M 70 3)) 255) % 65536) M (fun r9 M8 => K r9 M8)) else kJ0_indexOf_0f7a4 2 0 M (fun r11 M10 => K r11 M10))) else K (-1) M) else K (-1) M)) : k7_variable M K := by
  intro sc d hd
  refine fr_aload_n (pc := 0) dX7_variable_0 rfl rfl ?_
  refine fr_getf (a := 70) (i := 4) (v := gI M 70 4) (t := 0) (pc := 1) dX7_variable_1 rfl pf_7_40 rfl s0_70 rfl rfl ?_
  refine fr_iconst (pc := 4) dX7_variable_4 (by decide) ?_
  refine fr_icm_ne (tg := 38) (pc := 5) dX7_variable_5 rfl hq (fun hc1 hq => ?_) (fun hc1 hq => ?_)
  · refine fr_aload_n (pc := 8) dX7_variable_8 rfl rfl ?_
    refine fr_getf (a := 70) (i := 2) (v := gI M 70 2) (t := 0) (pc := 9) dX7_variable_9 rfl pf_7_28 rfl s0_70 rfl rfl ?_
    refine fr_aload_n (pc := 12) dX7_variable_12 rfl rfl ?_
    refine fr_getf (a := 70) (i := 3) (v := gI M 70 3) (t := 0) (pc := 13) dX7_variable_13 rfl pf_7_37 rfl s0_70 rfl rfl ?_
    refine fr_isub (z := w32 ((gI M 70 2) - (gI M 70 3))) (pc := 16) dX7_variable_16 rfl ?_
    refine fr_iconst (pc := 17) dX7_variable_17 (by decide) ?_
    refine fr_icm_ne (tg := 38) (pc := 18) dX7_variable_18 rfl hq (fun hc2 hq => ?_) (fun hc2 hq => ?_)
    · refine fr_ldcs (pc := 21) dX7_variable_21 rfl rfl ?_
      refine fr_aload_n (pc := 23) dX7_variable_23 rfl rfl ?_
      refine fr_aload_n (pc := 24) dX7_variable_24 rfl rfl ?_
      refine fr_getf (a := 70) (i := 3) (v := gI M 70 3) (t := 0) (pc := 25) dX7_variable_25 rfl pf_7_37 rfl s0_70 rfl rfl ?_
      refine fr_inVI (a := 70) (as := [(0, gI M 70 3)]) (rest := [(3, 2)]) (ls' := [(2, 70), (0, gI M 70 3)]) (c1 := 0) (c2 := 0) (pc := 28) dX7_variable_28 pl_7_46 rfl ⟨Nat.le_of_ble_eq_true rfl, Nat.le_of_ble_eq_true rfl⟩ rfl rfl rfl s0_70 (Nat.le_of_ble_eq_true rfl) (by omega) rfl rfl (pm_zc _) ?_ (fun y M' h => h)
      refine fr_iload_n (pc := 0) dX7_byteAt_0 rfl rfl ?_
      refine fr_ifc_lt (tg := 25) (pc := 1) dX7_byteAt_1 rfl hq (fun hc3 hq => ?_) (fun hc3 hq => ?_)
      · refine fr_iconst (pc := 25) dX7_byteAt_25 (by decide) ?_
        refine fr_iret (pc := 26) dX7_byteAt_26 (Or.inl rfl) ?_
        refine fr_i2c (z := 0) (pc := 31) dX7_variable_31 rfl ?_
        refine fr_inTI (as := [(0, 0)]) (rest := []) (ls' := [(3, 2), (0, 0)]) (c1 := 0) (c2 := 0) (pc := 32) dX7_variable_32 pl_7_72 rfl ⟨Nat.le_of_ble_eq_true rfl, Nat.le_of_ble_eq_true rfl⟩ rfl rfl (by decide) rfl (by omega) rfl rfl (pm_zc _) (hq sc _ (by omega)) (fun r5 M4 hq => ?_)
        refine fr_goto (tg := 39) (pc := 35) dX7_variable_35 rfl ?_
        exact fr_iret (pc := 39) dX7_variable_39 (Or.inl rfl) hq
      · refine fr_iload_n (pc := 4) dX7_byteAt_4 rfl rfl ?_
        refine fr_aload_n (pc := 5) dX7_byteAt_5 rfl rfl ?_
        refine fr_getf (a := 70) (i := 1) (v := gI M 70 1) (t := 0) (pc := 6) dX7_byteAt_6 rfl pf_7_24 rfl s0_70 rfl rfl ?_
        refine fr_icm_ge (tg := 25) (pc := 9) dX7_byteAt_9 rfl hq (fun hc6 hq => ?_) (fun hc6 hq => ?_)
        · refine fr_aload_n (pc := 12) dX7_byteAt_12 rfl rfl ?_
          refine fr_getr (a := 70) (pc := 13) dX7_byteAt_13 rfl pf_7_9 s0_70 rfl rf_70_0 ?_
          refine fr_iload_n (pc := 16) dX7_byteAt_16 rfl rfl ?_
          obtain ⟨hb7, hq⟩ := hq
          refine fr_baload (a := 1) (v := gI M 1 (gI M 70 3)) (pc := 17) dX7_byteAt_17 rfl s0_1 hb7 (Or.inl rfl) rfl ?_
          refine fr_sipush (pc := 18) dX7_byteAt_18 (by decide) ?_
          refine fr_iand (z := pm_iand (gI M 1 (gI M 70 3)) 255) (pc := 21) dX7_byteAt_21 rfl ?_
          refine fr_goto (tg := 26) (pc := 22) dX7_byteAt_22 rfl ?_
          refine fr_iret (pc := 26) dX7_byteAt_26 (Or.inl rfl) ?_
          refine fr_i2c (z := (pm_iand (gI M 1 (gI M 70 3)) 255) % 65536) (pc := 31) dX7_variable_31 rfl ?_
          refine fr_inTI (as := [(0, (pm_iand (gI M 1 (gI M 70 3)) 255) % 65536)]) (rest := []) (ls' := [(3, 2), (0, (pm_iand (gI M 1 (gI M 70 3)) 255) % 65536)]) (c1 := 0) (c2 := 0) (pc := 32) dX7_variable_32 pl_7_72 rfl ⟨Nat.le_of_ble_eq_true rfl, Nat.le_of_ble_eq_true rfl⟩ rfl rfl (by decide) rfl (by omega) rfl rfl (pm_zc _) (hq sc _ (by omega)) (fun r9 M8 hq => ?_)
          refine fr_goto (tg := 39) (pc := 35) dX7_variable_35 rfl ?_
          exact fr_iret (pc := 39) dX7_variable_39 (Or.inl rfl) hq
        · refine fr_iconst (pc := 25) dX7_byteAt_25 (by decide) ?_
          refine fr_iret (pc := 26) dX7_byteAt_26 (Or.inl rfl) ?_
          refine fr_i2c (z := 0) (pc := 31) dX7_variable_31 rfl ?_
          refine fr_inTI (as := [(0, 0)]) (rest := []) (ls' := [(3, 2), (0, 0)]) (c1 := 0) (c2 := 0) (pc := 32) dX7_variable_32 pl_7_72 rfl ⟨Nat.le_of_ble_eq_true rfl, Nat.le_of_ble_eq_true rfl⟩ rfl rfl (by decide) rfl (by omega) rfl rfl (pm_zc _) (hq sc _ (by omega)) (fun r11 M10 hq => ?_)
          refine fr_goto (tg := 39) (pc := 35) dX7_variable_35 rfl ?_
          exact fr_iret (pc := 39) dX7_variable_39 (Or.inl rfl) hq
    · refine fr_iconst (pc := 38) dX7_variable_38 (by decide) ?_
      exact fr_iret (pc := 39) dX7_variable_39 (Or.inl rfl) hq
  · refine fr_iconst (pc := 38) dX7_variable_38 (by decide) ?_
    exact fr_iret (pc := 39) dX7_variable_39 (Or.inl rfl) hq
theorem k7_isWord_r {tx : Int} {M : pm_M} {K : Int → pm_M → Prop} (htx : 0 ≤ tx ∧ tx < 10) (hq : (if gI M 70 4 = 2 then (if w32 ((gI M 70 2) - (gI M 70 3)) = pm_ishr ((pm_txt tx.toNat).length : Int) 0 then k7_isWord_28 tx 0 M K else K 0 M) else K 0 M)) : k7_isWord tx M K := by
  intro sc d hd
  refine fr_aload_n (pc := 0) dX7_isWord_0 rfl rfl ?_
  refine fr_getf (a := 70) (i := 4) (v := gI M 70 4) (t := 0) (pc := 1) dX7_isWord_1 rfl pf_7_40 rfl s0_70 rfl rfl ?_
  refine fr_iconst (pc := 4) dX7_isWord_4 (by decide) ?_
  refine fr_icm_ne (tg := 24) (pc := 5) dX7_isWord_5 rfl hq (fun hc1 hq => ?_) (fun hc1 hq => ?_)
  · refine fr_aload_n (pc := 8) dX7_isWord_8 rfl rfl ?_
    refine fr_getf (a := 70) (i := 2) (v := gI M 70 2) (t := 0) (pc := 9) dX7_isWord_9 rfl pf_7_28 rfl s0_70 rfl rfl ?_
    refine fr_aload_n (pc := 12) dX7_isWord_12 rfl rfl ?_
    refine fr_getf (a := 70) (i := 3) (v := gI M 70 3) (t := 0) (pc := 13) dX7_isWord_13 rfl pf_7_37 rfl s0_70 rfl rfl ?_
    refine fr_isub (z := w32 ((gI M 70 2) - (gI M 70 3))) (pc := 16) dX7_isWord_16 rfl ?_
    refine fr_aload_n (pc := 17) dX7_isWord_17 rfl rfl ?_
    refine fr_inTI (as := []) (rest := [(0, w32 ((gI M 70 2) - (gI M 70 3)))]) (ls' := [(3, tx)]) (c1 := 0) (c2 := 0) (pc := 18) dX7_isWord_18 pl_7_79 rfl ⟨Nat.le_of_ble_eq_true rfl, Nat.le_of_ble_eq_true rfl⟩ rfl rfl htx rfl (by omega) rfl rfl (pm_zc _) ?_ (fun y M' h => h)
    refine fr_aload_n (pc := 0) dJ0_length_8abf5_0 rfl rfl ?_
    refine fr_tval (pc := 1) dJ0_length_8abf5_1 htx rfl ?_
    refine fr_tlen (pc := 4) dJ0_length_8abf5_4 htx ?_
    refine fr_aload_n (pc := 5) dJ0_length_8abf5_5 rfl rfl ?_
    refine fr_inTI (as := []) (rest := [(0, ((pm_txt tx.toNat).length : Int))]) (ls' := [(3, tx)]) (c1 := 0) (c2 := 0) (pc := 6) dJ0_length_8abf5_6 pl_17_335 rfl ⟨Nat.le_of_ble_eq_true rfl, Nat.le_of_ble_eq_true rfl⟩ rfl rfl htx rfl (by omega) rfl rfl (pm_zc _) ?_ (fun y M' h => h)
    refine fr_getst (pc := 0) dJ0_coder_7d493_0 rfl ?_
    refine fr_ifcF (tg := 13) (pc := 3) dJ0_coder_7d493_3 rfl rfl ?_
    refine fr_aload_n (pc := 6) dJ0_coder_7d493_6 rfl rfl ?_
    refine fr_tcod (pc := 7) dJ0_coder_7d493_7 htx rfl ?_
    refine fr_goto (tg := 14) (pc := 10) dJ0_coder_7d493_10 rfl ?_
    refine fr_iret (pc := 14) dJ0_coder_7d493_14 (Or.inr (Or.inr (Or.inr ⟨rfl, by decide, by decide⟩))) ?_
    refine fr_ishr (z := pm_ishr ((pm_txt tx.toNat).length : Int) 0) (pc := 9) dJ0_length_8abf5_9 rfl ?_
    refine fr_iret (pc := 10) dJ0_length_8abf5_10 (Or.inl rfl) ?_
    refine fr_icm_eq (tg := 26) (pc := 21) dX7_isWord_21 rfl hq (fun hc2 hq => ?_) (fun hc2 hq => ?_)
    · refine fr_iconst (pc := 26) dX7_isWord_26 (by decide) ?_
      refine fr_istore_n (ls2 := [(2, 70), (3, tx), (0, 0)]) (pc := 27) dX7_isWord_27 rfl (Nat.le_of_ble_eq_true rfl) rfl ?_
      exact hq sc d hd
    · refine fr_iconst (pc := 24) dX7_isWord_24 (by decide) ?_
      exact fr_iret (pc := 25) dX7_isWord_25 (Or.inr (Or.inl ⟨rfl, Or.inl rfl⟩)) hq
  · refine fr_iconst (pc := 24) dX7_isWord_24 (by decide) ?_
    exact fr_iret (pc := 25) dX7_isWord_25 (Or.inr (Or.inl ⟨rfl, Or.inl rfl⟩)) hq
theorem k7_isWord_28_r {tx l2 : Int} {M : pm_M} {K : Int → pm_M → Prop} (htx : 0 ≤ tx ∧ tx < 10) (hq : (if l2 < pm_ishr ((pm_txt tx.toNat).length : Int) 0 then (if w32 ((gI M 70 3) + l2) < 0 then kJ0_charAt_5068e tx l2 M (fun r4 M3 => (if 0 = r4 then k7_isWord_28 tx (w32 (l2 + 1)) M3 K else K 0 M3)) else (if w32 ((gI M 70 3) + l2) < gI M 70 1 then ((0 ≤ w32 ((gI M 70 3) + l2) ∧ w32 ((gI M 70 3) + l2) < 600) ∧ kJ0_charAt_5068e tx l2 M (fun r9 M8 => (if pm_iand (gI M 1 (w32 ((gI M 70 3) + l2))) 255 = r9 then k7_isWord_28 tx (w32 (l2 + 1)) M8 K else K 0 M8))) else kJ0_charAt_5068e tx l2 M (fun r12 M11 => (if 0 = r12 then k7_isWord_28 tx (w32 (l2 + 1)) M11 K else K 0 M11)))) else K 1 M)) : k7_isWord_28 tx l2 M K := by
  intro sc d hd
  refine fr_iload_n (pc := 28) dX7_isWord_28 rfl rfl ?_
  refine fr_aload_n (pc := 29) dX7_isWord_29 rfl rfl ?_
  refine fr_inTI (as := []) (rest := [(0, l2)]) (ls' := [(3, tx)]) (c1 := 0) (c2 := 0) (pc := 30) dX7_isWord_30 pl_7_79 rfl ⟨Nat.le_of_ble_eq_true rfl, Nat.le_of_ble_eq_true rfl⟩ rfl rfl htx rfl (by omega) rfl rfl (pm_zc _) ?_ (fun y M' h => h)
  refine fr_aload_n (pc := 0) dJ0_length_8abf5_0 rfl rfl ?_
  refine fr_tval (pc := 1) dJ0_length_8abf5_1 htx rfl ?_
  refine fr_tlen (pc := 4) dJ0_length_8abf5_4 htx ?_
  refine fr_aload_n (pc := 5) dJ0_length_8abf5_5 rfl rfl ?_
  refine fr_inTI (as := []) (rest := [(0, ((pm_txt tx.toNat).length : Int))]) (ls' := [(3, tx)]) (c1 := 0) (c2 := 0) (pc := 6) dJ0_length_8abf5_6 pl_17_335 rfl ⟨Nat.le_of_ble_eq_true rfl, Nat.le_of_ble_eq_true rfl⟩ rfl rfl htx rfl (by omega) rfl rfl (pm_zc _) ?_ (fun y M' h => h)
  refine fr_getst (pc := 0) dJ0_coder_7d493_0 rfl ?_
  refine fr_ifcF (tg := 13) (pc := 3) dJ0_coder_7d493_3 rfl rfl ?_
  refine fr_aload_n (pc := 6) dJ0_coder_7d493_6 rfl rfl ?_
  refine fr_tcod (pc := 7) dJ0_coder_7d493_7 htx rfl ?_
  refine fr_goto (tg := 14) (pc := 10) dJ0_coder_7d493_10 rfl ?_
  refine fr_iret (pc := 14) dJ0_coder_7d493_14 (Or.inr (Or.inr (Or.inr ⟨rfl, by decide, by decide⟩))) ?_
  refine fr_ishr (z := pm_ishr ((pm_txt tx.toNat).length : Int) 0) (pc := 9) dJ0_length_8abf5_9 rfl ?_
  refine fr_iret (pc := 10) dJ0_length_8abf5_10 (Or.inl rfl) ?_
  refine fr_icm_ge (tg := 62) (pc := 33) dX7_isWord_33 rfl hq (fun hc1 hq => ?_) (fun hc1 hq => ?_)
  · refine fr_aload_n (pc := 36) dX7_isWord_36 rfl rfl ?_
    refine fr_aload_n (pc := 37) dX7_isWord_37 rfl rfl ?_
    refine fr_getf (a := 70) (i := 3) (v := gI M 70 3) (t := 0) (pc := 38) dX7_isWord_38 rfl pf_7_37 rfl s0_70 rfl rfl ?_
    refine fr_iload_n (pc := 41) dX7_isWord_41 rfl rfl ?_
    refine fr_iadd (z := w32 ((gI M 70 3) + l2)) (pc := 42) dX7_isWord_42 rfl ?_
    refine fr_inVI (a := 70) (as := [(0, w32 ((gI M 70 3) + l2))]) (rest := []) (ls' := [(2, 70), (0, w32 ((gI M 70 3) + l2))]) (c1 := 0) (c2 := 0) (pc := 43) dX7_isWord_43 pl_7_46 rfl ⟨Nat.le_of_ble_eq_true rfl, Nat.le_of_ble_eq_true rfl⟩ rfl rfl rfl s0_70 (Nat.le_of_ble_eq_true rfl) (by omega) rfl rfl (pm_zc _) ?_ (fun y M' h => h)
    refine fr_iload_n (pc := 0) dX7_byteAt_0 rfl rfl ?_
    refine fr_ifc_lt (tg := 25) (pc := 1) dX7_byteAt_1 rfl hq (fun hc2 hq => ?_) (fun hc2 hq => ?_)
    · refine fr_iconst (pc := 25) dX7_byteAt_25 (by decide) ?_
      refine fr_iret (pc := 26) dX7_byteAt_26 (Or.inl rfl) ?_
      refine fr_aload_n (pc := 46) dX7_isWord_46 rfl rfl ?_
      refine fr_iload_n (pc := 47) dX7_isWord_47 rfl rfl ?_
      refine fr_inTI (as := [(0, l2)]) (rest := [(0, 0)]) (ls' := [(3, tx), (0, l2)]) (c1 := 0) (c2 := 0) (pc := 48) dX7_isWord_48 pl_7_82 rfl ⟨Nat.le_of_ble_eq_true rfl, Nat.le_of_ble_eq_true rfl⟩ rfl rfl htx rfl (by omega) rfl rfl (pm_zc _) (hq sc _ (by omega)) (fun r4 M3 hq => ?_)
      refine fr_icm_eq (tg := 56) (pc := 51) dX7_isWord_51 rfl hq (fun hc5 hq => ?_) (fun hc5 hq => ?_)
      · refine fr_iinc (z := w32 (l2 + 1)) (ls2 := [(2, 70), (3, tx), (0, w32 (l2 + 1))]) (pc := 56) dX7_isWord_56 (Nat.le_of_ble_eq_true rfl) rfl rfl rfl ?_
        refine fr_goto (tg := 28) (pc := 59) dX7_isWord_59 rfl ?_
        exact hq sc d hd
      · refine fr_iconst (pc := 54) dX7_isWord_54 (by decide) ?_
        exact fr_iret (pc := 55) dX7_isWord_55 (Or.inr (Or.inl ⟨rfl, Or.inl rfl⟩)) hq
    · refine fr_iload_n (pc := 4) dX7_byteAt_4 rfl rfl ?_
      refine fr_aload_n (pc := 5) dX7_byteAt_5 rfl rfl ?_
      refine fr_getf (a := 70) (i := 1) (v := gI M 70 1) (t := 0) (pc := 6) dX7_byteAt_6 rfl pf_7_24 rfl s0_70 rfl rfl ?_
      refine fr_icm_ge (tg := 25) (pc := 9) dX7_byteAt_9 rfl hq (fun hc6 hq => ?_) (fun hc6 hq => ?_)
      · refine fr_aload_n (pc := 12) dX7_byteAt_12 rfl rfl ?_
        refine fr_getr (a := 70) (pc := 13) dX7_byteAt_13 rfl pf_7_9 s0_70 rfl rf_70_0 ?_
        refine fr_iload_n (pc := 16) dX7_byteAt_16 rfl rfl ?_
        obtain ⟨hb7, hq⟩ := hq
        refine fr_baload (a := 1) (v := gI M 1 (w32 ((gI M 70 3) + l2))) (pc := 17) dX7_byteAt_17 rfl s0_1 hb7 (Or.inl rfl) rfl ?_
        refine fr_sipush (pc := 18) dX7_byteAt_18 (by decide) ?_
        refine fr_iand (z := pm_iand (gI M 1 (w32 ((gI M 70 3) + l2))) 255) (pc := 21) dX7_byteAt_21 rfl ?_
        refine fr_goto (tg := 26) (pc := 22) dX7_byteAt_22 rfl ?_
        refine fr_iret (pc := 26) dX7_byteAt_26 (Or.inl rfl) ?_
        refine fr_aload_n (pc := 46) dX7_isWord_46 rfl rfl ?_
        refine fr_iload_n (pc := 47) dX7_isWord_47 rfl rfl ?_
        refine fr_inTI (as := [(0, l2)]) (rest := [(0, pm_iand (gI M 1 (w32 ((gI M 70 3) + l2))) 255)]) (ls' := [(3, tx), (0, l2)]) (c1 := 0) (c2 := 0) (pc := 48) dX7_isWord_48 pl_7_82 rfl ⟨Nat.le_of_ble_eq_true rfl, Nat.le_of_ble_eq_true rfl⟩ rfl rfl htx rfl (by omega) rfl rfl (pm_zc _) (hq sc _ (by omega)) (fun r9 M8 hq => ?_)
        refine fr_icm_eq (tg := 56) (pc := 51) dX7_isWord_51 rfl hq (fun hc10 hq => ?_) (fun hc10 hq => ?_)
        · refine fr_iinc (z := w32 (l2 + 1)) (ls2 := [(2, 70), (3, tx), (0, w32 (l2 + 1))]) (pc := 56) dX7_isWord_56 (Nat.le_of_ble_eq_true rfl) rfl rfl rfl ?_
          refine fr_goto (tg := 28) (pc := 59) dX7_isWord_59 rfl ?_
          exact hq sc d hd
        · refine fr_iconst (pc := 54) dX7_isWord_54 (by decide) ?_
          exact fr_iret (pc := 55) dX7_isWord_55 (Or.inr (Or.inl ⟨rfl, Or.inl rfl⟩)) hq
      · refine fr_iconst (pc := 25) dX7_byteAt_25 (by decide) ?_
        refine fr_iret (pc := 26) dX7_byteAt_26 (Or.inl rfl) ?_
        refine fr_aload_n (pc := 46) dX7_isWord_46 rfl rfl ?_
        refine fr_iload_n (pc := 47) dX7_isWord_47 rfl rfl ?_
        refine fr_inTI (as := [(0, l2)]) (rest := [(0, 0)]) (ls' := [(3, tx), (0, l2)]) (c1 := 0) (c2 := 0) (pc := 48) dX7_isWord_48 pl_7_82 rfl ⟨Nat.le_of_ble_eq_true rfl, Nat.le_of_ble_eq_true rfl⟩ rfl rfl htx rfl (by omega) rfl rfl (pm_zc _) (hq sc _ (by omega)) (fun r12 M11 hq => ?_)
        refine fr_icm_eq (tg := 56) (pc := 51) dX7_isWord_51 rfl hq (fun hc13 hq => ?_) (fun hc13 hq => ?_)
        · refine fr_iinc (z := w32 (l2 + 1)) (ls2 := [(2, 70), (3, tx), (0, w32 (l2 + 1))]) (pc := 56) dX7_isWord_56 (Nat.le_of_ble_eq_true rfl) rfl rfl rfl ?_
          refine fr_goto (tg := 28) (pc := 59) dX7_isWord_59 rfl ?_
          exact hq sc d hd
        · refine fr_iconst (pc := 54) dX7_isWord_54 (by decide) ?_
          exact fr_iret (pc := 55) dX7_isWord_55 (Or.inr (Or.inl ⟨rfl, Or.inl rfl⟩)) hq
  · refine fr_iconst (pc := 62) dX7_isWord_62 (by decide) ?_
    exact fr_iret (pc := 63) dX7_isWord_63 (Or.inr (Or.inl ⟨rfl, Or.inr rfl⟩)) hq

-- needs 30 31 32
theorem kJ0_charAt_5068e_r {tx a1 : Int} {M : pm_M} {K : Int → pm_M → Prop} (htx : 0 ≤ tx ∧ tx < 10) (hq : (if a1 < 0 then False else (if a1 < ((pm_txt tx.toNat).length : Int) then ((0 ≤ a1 ∧ a1 < ((pm_txt tx.toNat).length : Int)) ∧ ((0 ≤ (pm_iand ((pm_txt tx.toNat).getD a1.toNat 0) 255) % 65536 ∧ (pm_iand ((pm_txt tx.toNat).getD a1.toNat 0) 255) % 65536 < 65536) ∧ ((0 ≤ (pm_iand ((pm_txt tx.toNat).getD a1.toNat 0) 255) % 65536 ∧ (pm_iand ((pm_txt tx.toNat).getD a1.toNat 0) 255) % 65536 < 65536) ∧ K ((pm_iand ((pm_txt tx.toNat).getD a1.toNat 0) 255) % 65536) M))) else False))) : kJ0_charAt_5068e tx a1 M K := by
  intro sc d hd
  refine fr_aload_n (pc := 0) dJ0_charAt_5068e_0 rfl rfl ?_
  refine fr_inTI (as := []) (rest := []) (ls' := [(3, tx)]) (c1 := 0) (c2 := 0) (pc := 1) dJ0_charAt_5068e_1 pl_17_492 rfl ⟨Nat.le_of_ble_eq_true rfl, Nat.le_of_ble_eq_true rfl⟩ rfl rfl htx rfl (by omega) rfl rfl (pm_zc _) ?_ (fun y M' h => h)
  refine fr_getst (pc := 0) dJ0_isLatin1_aae02_0 rfl ?_
  refine fr_ifcF (tg := 17) (pc := 3) dJ0_isLatin1_aae02_3 rfl rfl ?_
  refine fr_aload_n (pc := 6) dJ0_isLatin1_aae02_6 rfl rfl ?_
  refine fr_tcod (pc := 7) dJ0_isLatin1_aae02_7 htx rfl ?_
  refine fr_ifcF (tg := 17) (pc := 10) dJ0_isLatin1_aae02_10 rfl rfl ?_
  refine fr_iconst (pc := 13) dJ0_isLatin1_aae02_13 (by decide) ?_
  refine fr_goto (tg := 18) (pc := 14) dJ0_isLatin1_aae02_14 rfl ?_
  refine fr_iret (pc := 18) dJ0_isLatin1_aae02_18 (Or.inr (Or.inl ⟨rfl, Or.inr rfl⟩)) ?_
  refine fr_ifcF (tg := 16) (pc := 4) dJ0_charAt_5068e_4 rfl rfl ?_
  refine fr_aload_n (pc := 7) dJ0_charAt_5068e_7 rfl rfl ?_
  refine fr_tval (pc := 8) dJ0_charAt_5068e_8 htx rfl ?_
  refine fr_iload_n (pc := 11) dJ0_charAt_5068e_11 rfl rfl ?_
  refine fr_inSI (as := [(5, tx), (0, a1)]) (rest := []) (ls' := [(5, tx), (0, a1)]) (c1 := 0) (c2 := 0) (pc := 12) dJ0_charAt_5068e_12 pl_17_495 rfl ⟨Nat.le_of_ble_eq_true rfl, Nat.le_of_ble_eq_true rfl⟩ rfl rfl  (by omega) rfl rfl (pm_zc _) ?_ (fun y M' h => h)
  refine fr_iload_n (pc := 0) dJ1_charAt_3b067_0 rfl rfl ?_
  refine fr_aload_n (pc := 1) dJ1_charAt_3b067_1 rfl rfl ?_
  refine fr_tlen (pc := 2) dJ1_charAt_3b067_2 htx ?_
  refine fr_inSV (as := [(0, a1), (0, ((pm_txt tx.toNat).length : Int))]) (rest := []) (ls' := [(0, a1), (0, ((pm_txt tx.toNat).length : Int))]) (c1 := 0) (c2 := 0) (pc := 3) dJ1_charAt_3b067_3 pl_18_9 rfl ⟨Nat.le_of_ble_eq_true rfl, Nat.le_of_ble_eq_true rfl⟩ rfl rfl  (by omega) rfl rfl (pm_zc _) ?_ (fun M' h => h)
  refine fr_iload_n (pc := 0) dJ0_checkIndex_df160_0 rfl rfl ?_
  refine fr_iload_n (pc := 1) dJ0_checkIndex_df160_1 rfl rfl ?_
  refine fr_getst6 (pc := 2) dJ0_checkIndex_df160_2 rfl ?_
  refine fr_inSI (as := [(0, a1), (0, ((pm_txt tx.toNat).length : Int)), (6, 0)]) (rest := []) (ls' := [(0, a1), (0, ((pm_txt tx.toNat).length : Int)), (6, 0)]) (c1 := 0) (c2 := 0) (pc := 5) dJ0_checkIndex_df160_5 pl_17_1059 rfl ⟨Nat.le_of_ble_eq_true rfl, Nat.le_of_ble_eq_true rfl⟩ rfl rfl  (by omega) rfl rfl (pm_zc _) ?_ (fun y M' h => h)
  refine fr_iload_n (pc := 0) dJ3_checkIndex_8e157_0 rfl rfl ?_
  refine fr_ifc_lt (tg := 9) (pc := 1) dJ3_checkIndex_8e157_1 rfl hq (fun hc1 hq => ?_) (fun hc1 hq => ?_)
  · exact hq.elim
  · refine fr_iload_n (pc := 4) dJ3_checkIndex_8e157_4 rfl rfl ?_
    refine fr_iload_n (pc := 5) dJ3_checkIndex_8e157_5 rfl rfl ?_
    refine fr_icm_lt (tg := 16) (pc := 6) dJ3_checkIndex_8e157_6 rfl hq (fun hc2 hq => ?_) (fun hc2 hq => ?_)
    · refine fr_iload_n (pc := 16) dJ3_checkIndex_8e157_16 rfl rfl ?_
      refine fr_iret (pc := 17) dJ3_checkIndex_8e157_17 (Or.inl rfl) ?_
      refine fr_pop (pc := 8) dJ0_checkIndex_df160_8 pm_t0 ?_
      refine fr_vret (pc := 9) dJ0_checkIndex_df160_9 rfl ?_
      refine fr_aload_n (pc := 6) dJ1_charAt_3b067_6 rfl rfl ?_
      refine fr_iload_n (pc := 7) dJ1_charAt_3b067_7 rfl rfl ?_
      obtain ⟨hb3, hq⟩ := hq
      refine fr_tald (pc := 8) dJ1_charAt_3b067_8 htx hb3 ?_
      refine fr_sipush (pc := 9) dJ1_charAt_3b067_9 (by decide) ?_
      refine fr_iand (z := pm_iand ((pm_txt tx.toNat).getD a1.toNat 0) 255) (pc := 12) dJ1_charAt_3b067_12 rfl ?_
      refine fr_i2c (z := (pm_iand ((pm_txt tx.toNat).getD a1.toNat 0) 255) % 65536) (pc := 13) dJ1_charAt_3b067_13 rfl ?_
      obtain ⟨hz4, hq⟩ := hq
      refine fr_iret (pc := 14) dJ1_charAt_3b067_14 (Or.inr (Or.inr (Or.inl ⟨rfl, hz4⟩))) ?_
      obtain ⟨hz5, hq⟩ := hq
      exact fr_iret (pc := 15) dJ0_charAt_5068e_15 (Or.inr (Or.inr (Or.inl ⟨rfl, hz5⟩))) hq
    · exact hq.elim
theorem k0_addStatement_r {o : Nat} {a1 a2 a3 a4 : Int} {M : pm_M} {K : pm_M → Prop} (ho : o = 2 ∨ o = 36) (hq : (if gI M o 16 < 20 then ((0 ≤ gI M o 16 ∧ gI M o 16 < 20) ∧ (if gI M o 15 < 60 then ((0 ≤ gI M o 15 ∧ gI M o 15 < 60) ∧ k0_insert o (gI M o 15) a1 a2 (upI (upI (upI (upI M (o + 12) (gI M o 16) (gI M o 15)) o 16 (w32 ((gI M o 16) + 1))) (o + 4) (gI M o 15) a3) (o + 11) (gI M o 15) a4) (fun M5 => K M5)) else k0_insert o (gI M o 15) a1 a2 (upI (upI M (o + 12) (gI M o 16) (gI M o 15)) o 16 (w32 ((gI M o 16) + 1))) (fun M7 => K M7))) else (if gI M o 15 < 60 then ((0 ≤ gI M o 15 ∧ gI M o 15 < 60) ∧ k0_insert o (gI M o 15) a1 a2 (upI (upI M (o + 4) (gI M o 15) a3) (o + 11) (gI M o 15) a4) (fun M11 => K M11)) else k0_insert o (gI M o 15) a1 a2 M (fun M13 => K M13)))) : k0_addStatement o a1 a2 a3 a4 M K := by
  intro sc d hd
  rcases ho with rfl | rfl
  · refine fr_aload_n (pc := 0) dX0_addStatement_0 rfl rfl ?_
    refine fr_getf (a := 2) (i := 16) (v := gI M 2 16) (t := 0) (pc := 1) dX0_addStatement_1 rfl pf_0_61 rfl s0_2 rfl rfl ?_
    refine fr_bipush (pc := 4) dX0_addStatement_4 (by decide) ?_
    refine fr_icm_ge (tg := 32) (pc := 6) dX0_addStatement_6 rfl hq (fun hc1 hq => ?_) (fun hc1 hq => ?_)
    · refine fr_aload_n (pc := 9) dX0_addStatement_9 rfl rfl ?_
      refine fr_getr (a := 2) (pc := 10) dX0_addStatement_10 rfl pf_0_45 s0_2 rfl rf_2_11 ?_
      refine fr_aload_n (pc := 13) dX0_addStatement_13 rfl rfl ?_
      refine fr_getf (a := 2) (i := 16) (v := gI M 2 16) (t := 0) (pc := 14) dX0_addStatement_14 rfl pf_0_61 rfl s0_2 rfl rfl ?_
      refine fr_aload_n (pc := 17) dX0_addStatement_17 rfl rfl ?_
      refine fr_getf (a := 2) (i := 15) (v := gI M 2 15) (t := 0) (pc := 18) dX0_addStatement_18 rfl pf_0_57 rfl s0_2 rfl rfl ?_
      obtain ⟨hb2, hq⟩ := hq
      refine fr_iastore (a := 14) (pc := 21) dX0_addStatement_21 rfl s0_14 hb2 nr_14 ?_
      refine fr_aload_n (pc := 22) dX0_addStatement_22 rfl rfl ?_
      refine fr_dup (pc := 23) dX0_addStatement_23 pm_t2 ?_
      refine fr_getf (a := 2) (i := 16) (v := gI M 2 16) (t := 0) (pc := 24) dX0_addStatement_24 rfl pf_0_61 rfl s0_2 rfl (gI_ne _ _ _ _ (by decide)) ?_
      refine fr_iconst (pc := 27) dX0_addStatement_27 (by decide) ?_
      refine fr_iadd (z := w32 ((gI M 2 16) + 1)) (pc := 28) dX0_addStatement_28 rfl ?_
      refine fr_put (a := 2) (i := 16) (pc := 29) dX0_addStatement_29 rfl pf_0_61 rfl s0_2 rfl rfl nf_2_16 rfl ?_
      refine fr_aload_n (pc := 32) dX0_addStatement_32 rfl rfl ?_
      refine fr_getf (a := 2) (i := 15) (v := gI M 2 15) (t := 0) (pc := 33) dX0_addStatement_33 rfl pf_0_57 rfl s0_2 rfl ((gI_nf _ _ (by decide)).trans (gI_ne _ _ _ _ (by decide))) ?_
      refine fr_bipush (pc := 36) dX0_addStatement_36 (by decide) ?_
      refine fr_icm_ge (tg := 62) (pc := 38) dX0_addStatement_38 rfl hq (fun hc3 hq => ?_) (fun hc3 hq => ?_)
      · refine fr_aload_n (pc := 41) dX0_addStatement_41 rfl rfl ?_
        refine fr_getr (a := 2) (pc := 42) dX0_addStatement_42 rfl pf_0_21 s0_2 rfl rf_2_3 ?_
        refine fr_aload_n (pc := 45) dX0_addStatement_45 rfl rfl ?_
        refine fr_getf (a := 2) (i := 15) (v := gI M 2 15) (t := 0) (pc := 46) dX0_addStatement_46 rfl pf_0_57 rfl s0_2 rfl ((gI_nf _ _ (by decide)).trans (gI_ne _ _ _ _ (by decide))) ?_
        refine fr_iload_n (pc := 49) dX0_addStatement_49 rfl rfl ?_
        obtain ⟨hb4, hq⟩ := hq
        refine fr_iastore (a := 6) (pc := 50) dX0_addStatement_50 rfl s0_6 hb4 nr_6 ?_
        refine fr_aload_n (pc := 51) dX0_addStatement_51 rfl rfl ?_
        refine fr_getr (a := 2) (pc := 52) dX0_addStatement_52 rfl pf_0_42 s0_2 rfl rf_2_10 ?_
        refine fr_aload_n (pc := 55) dX0_addStatement_55 rfl rfl ?_
        refine fr_getf (a := 2) (i := 15) (v := gI M 2 15) (t := 0) (pc := 56) dX0_addStatement_56 rfl pf_0_57 rfl s0_2 rfl ((gI_ne _ _ _ _ (by decide)).trans ((gI_nf _ _ (by decide)).trans (gI_ne _ _ _ _ (by decide)))) ?_
        refine fr_iload (pc := 59) dX0_addStatement_59 rfl rfl ?_
        refine fr_iastore (a := 13) (pc := 61) dX0_addStatement_61 rfl s0_13 hb4 nr_13 ?_
        refine fr_aload_n (pc := 62) dX0_addStatement_62 rfl rfl ?_
        refine fr_aload_n (pc := 63) dX0_addStatement_63 rfl rfl ?_
        refine fr_getf (a := 2) (i := 15) (v := gI M 2 15) (t := 0) (pc := 64) dX0_addStatement_64 rfl pf_0_57 rfl s0_2 rfl ((gI_ne _ _ _ _ (by decide)).trans ((gI_ne _ _ _ _ (by decide)).trans ((gI_nf _ _ (by decide)).trans (gI_ne _ _ _ _ (by decide))))) ?_
        refine fr_iload_n (pc := 67) dX0_addStatement_67 rfl rfl ?_
        refine fr_iload_n (pc := 68) dX0_addStatement_68 rfl rfl ?_
        refine fr_inVV (a := 2) (as := [(0, gI M 2 15), (0, a1), (0, a2)]) (rest := []) (ls' := [(2, 2), (0, gI M 2 15), (0, a1), (0, a2)]) (c1 := 0) (c2 := 0) (pc := 69) dX0_addStatement_69 pl_0_76 rfl ⟨Nat.le_of_ble_eq_true rfl, Nat.le_of_ble_eq_true rfl⟩ rfl rfl rfl s0_2 (Nat.le_of_ble_eq_true rfl) (by omega) rfl rfl (pm_zc _) (hq sc _ (by omega)) (fun M5 hq => ?_)
        exact fr_vret (pc := 72) dX0_addStatement_72 rfl hq
      · refine fr_aload_n (pc := 62) dX0_addStatement_62 rfl rfl ?_
        refine fr_aload_n (pc := 63) dX0_addStatement_63 rfl rfl ?_
        refine fr_getf (a := 2) (i := 15) (v := gI M 2 15) (t := 0) (pc := 64) dX0_addStatement_64 rfl pf_0_57 rfl s0_2 rfl ((gI_nf _ _ (by decide)).trans (gI_ne _ _ _ _ (by decide))) ?_
        refine fr_iload_n (pc := 67) dX0_addStatement_67 rfl rfl ?_
        refine fr_iload_n (pc := 68) dX0_addStatement_68 rfl rfl ?_
        refine fr_inVV (a := 2) (as := [(0, gI M 2 15), (0, a1), (0, a2)]) (rest := []) (ls' := [(2, 2), (0, gI M 2 15), (0, a1), (0, a2)]) (c1 := 0) (c2 := 0) (pc := 69) dX0_addStatement_69 pl_0_76 rfl ⟨Nat.le_of_ble_eq_true rfl, Nat.le_of_ble_eq_true rfl⟩ rfl rfl rfl s0_2 (Nat.le_of_ble_eq_true rfl) (by omega) rfl rfl (pm_zc _) (hq sc _ (by omega)) (fun M7 hq => ?_)
        exact fr_vret (pc := 72) dX0_addStatement_72 rfl hq
    · refine fr_aload_n (pc := 32) dX0_addStatement_32 rfl rfl ?_
      refine fr_getf (a := 2) (i := 15) (v := gI M 2 15) (t := 0) (pc := 33) dX0_addStatement_33 rfl pf_0_57 rfl s0_2 rfl rfl ?_
      refine fr_bipush (pc := 36) dX0_addStatement_36 (by decide) ?_
      refine fr_icm_ge (tg := 62) (pc := 38) dX0_addStatement_38 rfl hq (fun hc9 hq => ?_) (fun hc9 hq => ?_)
      · refine fr_aload_n (pc := 41) dX0_addStatement_41 rfl rfl ?_
        refine fr_getr (a := 2) (pc := 42) dX0_addStatement_42 rfl pf_0_21 s0_2 rfl rf_2_3 ?_
        refine fr_aload_n (pc := 45) dX0_addStatement_45 rfl rfl ?_
        refine fr_getf (a := 2) (i := 15) (v := gI M 2 15) (t := 0) (pc := 46) dX0_addStatement_46 rfl pf_0_57 rfl s0_2 rfl rfl ?_
        refine fr_iload_n (pc := 49) dX0_addStatement_49 rfl rfl ?_
        obtain ⟨hb10, hq⟩ := hq
        refine fr_iastore (a := 6) (pc := 50) dX0_addStatement_50 rfl s0_6 hb10 nr_6 ?_
        refine fr_aload_n (pc := 51) dX0_addStatement_51 rfl rfl ?_
        refine fr_getr (a := 2) (pc := 52) dX0_addStatement_52 rfl pf_0_42 s0_2 rfl rf_2_10 ?_
        refine fr_aload_n (pc := 55) dX0_addStatement_55 rfl rfl ?_
        refine fr_getf (a := 2) (i := 15) (v := gI M 2 15) (t := 0) (pc := 56) dX0_addStatement_56 rfl pf_0_57 rfl s0_2 rfl (gI_ne _ _ _ _ (by decide)) ?_
        refine fr_iload (pc := 59) dX0_addStatement_59 rfl rfl ?_
        refine fr_iastore (a := 13) (pc := 61) dX0_addStatement_61 rfl s0_13 hb10 nr_13 ?_
        refine fr_aload_n (pc := 62) dX0_addStatement_62 rfl rfl ?_
        refine fr_aload_n (pc := 63) dX0_addStatement_63 rfl rfl ?_
        refine fr_getf (a := 2) (i := 15) (v := gI M 2 15) (t := 0) (pc := 64) dX0_addStatement_64 rfl pf_0_57 rfl s0_2 rfl ((gI_ne _ _ _ _ (by decide)).trans (gI_ne _ _ _ _ (by decide))) ?_
        refine fr_iload_n (pc := 67) dX0_addStatement_67 rfl rfl ?_
        refine fr_iload_n (pc := 68) dX0_addStatement_68 rfl rfl ?_
        refine fr_inVV (a := 2) (as := [(0, gI M 2 15), (0, a1), (0, a2)]) (rest := []) (ls' := [(2, 2), (0, gI M 2 15), (0, a1), (0, a2)]) (c1 := 0) (c2 := 0) (pc := 69) dX0_addStatement_69 pl_0_76 rfl ⟨Nat.le_of_ble_eq_true rfl, Nat.le_of_ble_eq_true rfl⟩ rfl rfl rfl s0_2 (Nat.le_of_ble_eq_true rfl) (by omega) rfl rfl (pm_zc _) (hq sc _ (by omega)) (fun M11 hq => ?_)
        exact fr_vret (pc := 72) dX0_addStatement_72 rfl hq
      · refine fr_aload_n (pc := 62) dX0_addStatement_62 rfl rfl ?_
        refine fr_aload_n (pc := 63) dX0_addStatement_63 rfl rfl ?_
        refine fr_getf (a := 2) (i := 15) (v := gI M 2 15) (t := 0) (pc := 64) dX0_addStatement_64 rfl pf_0_57 rfl s0_2 rfl rfl ?_
        refine fr_iload_n (pc := 67) dX0_addStatement_67 rfl rfl ?_
        refine fr_iload_n (pc := 68) dX0_addStatement_68 rfl rfl ?_
        refine fr_inVV (a := 2) (as := [(0, gI M 2 15), (0, a1), (0, a2)]) (rest := []) (ls' := [(2, 2), (0, gI M 2 15), (0, a1), (0, a2)]) (c1 := 0) (c2 := 0) (pc := 69) dX0_addStatement_69 pl_0_76 rfl ⟨Nat.le_of_ble_eq_true rfl, Nat.le_of_ble_eq_true rfl⟩ rfl rfl rfl s0_2 (Nat.le_of_ble_eq_true rfl) (by omega) rfl rfl (pm_zc _) (hq sc _ (by omega)) (fun M13 hq => ?_)
        exact fr_vret (pc := 72) dX0_addStatement_72 rfl hq
  · refine fr_aload_n (pc := 0) dX0_addStatement_0 rfl rfl ?_
    refine fr_getf (a := 36) (i := 16) (v := gI M 36 16) (t := 0) (pc := 1) dX0_addStatement_1 rfl pf_0_61 rfl s0_36 rfl rfl ?_
    refine fr_bipush (pc := 4) dX0_addStatement_4 (by decide) ?_
    refine fr_icm_ge (tg := 32) (pc := 6) dX0_addStatement_6 rfl hq (fun hc1 hq => ?_) (fun hc1 hq => ?_)
    · refine fr_aload_n (pc := 9) dX0_addStatement_9 rfl rfl ?_
      refine fr_getr (a := 36) (pc := 10) dX0_addStatement_10 rfl pf_0_45 s0_36 rfl rf_36_11 ?_
      refine fr_aload_n (pc := 13) dX0_addStatement_13 rfl rfl ?_
      refine fr_getf (a := 36) (i := 16) (v := gI M 36 16) (t := 0) (pc := 14) dX0_addStatement_14 rfl pf_0_61 rfl s0_36 rfl rfl ?_
      refine fr_aload_n (pc := 17) dX0_addStatement_17 rfl rfl ?_
      refine fr_getf (a := 36) (i := 15) (v := gI M 36 15) (t := 0) (pc := 18) dX0_addStatement_18 rfl pf_0_57 rfl s0_36 rfl rfl ?_
      obtain ⟨hb2, hq⟩ := hq
      refine fr_iastore (a := 48) (pc := 21) dX0_addStatement_21 rfl s0_48 hb2 nr_48 ?_
      refine fr_aload_n (pc := 22) dX0_addStatement_22 rfl rfl ?_
      refine fr_dup (pc := 23) dX0_addStatement_23 pm_t2 ?_
      refine fr_getf (a := 36) (i := 16) (v := gI M 36 16) (t := 0) (pc := 24) dX0_addStatement_24 rfl pf_0_61 rfl s0_36 rfl (gI_ne _ _ _ _ (by decide)) ?_
      refine fr_iconst (pc := 27) dX0_addStatement_27 (by decide) ?_
      refine fr_iadd (z := w32 ((gI M 36 16) + 1)) (pc := 28) dX0_addStatement_28 rfl ?_
      refine fr_put (a := 36) (i := 16) (pc := 29) dX0_addStatement_29 rfl pf_0_61 rfl s0_36 rfl rfl nf_36_16 rfl ?_
      refine fr_aload_n (pc := 32) dX0_addStatement_32 rfl rfl ?_
      refine fr_getf (a := 36) (i := 15) (v := gI M 36 15) (t := 0) (pc := 33) dX0_addStatement_33 rfl pf_0_57 rfl s0_36 rfl ((gI_nf _ _ (by decide)).trans (gI_ne _ _ _ _ (by decide))) ?_
      refine fr_bipush (pc := 36) dX0_addStatement_36 (by decide) ?_
      refine fr_icm_ge (tg := 62) (pc := 38) dX0_addStatement_38 rfl hq (fun hc3 hq => ?_) (fun hc3 hq => ?_)
      · refine fr_aload_n (pc := 41) dX0_addStatement_41 rfl rfl ?_
        refine fr_getr (a := 36) (pc := 42) dX0_addStatement_42 rfl pf_0_21 s0_36 rfl rf_36_3 ?_
        refine fr_aload_n (pc := 45) dX0_addStatement_45 rfl rfl ?_
        refine fr_getf (a := 36) (i := 15) (v := gI M 36 15) (t := 0) (pc := 46) dX0_addStatement_46 rfl pf_0_57 rfl s0_36 rfl ((gI_nf _ _ (by decide)).trans (gI_ne _ _ _ _ (by decide))) ?_
        refine fr_iload_n (pc := 49) dX0_addStatement_49 rfl rfl ?_
        obtain ⟨hb4, hq⟩ := hq
        refine fr_iastore (a := 40) (pc := 50) dX0_addStatement_50 rfl s0_40 hb4 nr_40 ?_
        refine fr_aload_n (pc := 51) dX0_addStatement_51 rfl rfl ?_
        refine fr_getr (a := 36) (pc := 52) dX0_addStatement_52 rfl pf_0_42 s0_36 rfl rf_36_10 ?_
        refine fr_aload_n (pc := 55) dX0_addStatement_55 rfl rfl ?_
        refine fr_getf (a := 36) (i := 15) (v := gI M 36 15) (t := 0) (pc := 56) dX0_addStatement_56 rfl pf_0_57 rfl s0_36 rfl ((gI_ne _ _ _ _ (by decide)).trans ((gI_nf _ _ (by decide)).trans (gI_ne _ _ _ _ (by decide)))) ?_
        refine fr_iload (pc := 59) dX0_addStatement_59 rfl rfl ?_
        refine fr_iastore (a := 47) (pc := 61) dX0_addStatement_61 rfl s0_47 hb4 nr_47 ?_
        refine fr_aload_n (pc := 62) dX0_addStatement_62 rfl rfl ?_
        refine fr_aload_n (pc := 63) dX0_addStatement_63 rfl rfl ?_
        refine fr_getf (a := 36) (i := 15) (v := gI M 36 15) (t := 0) (pc := 64) dX0_addStatement_64 rfl pf_0_57 rfl s0_36 rfl ((gI_ne _ _ _ _ (by decide)).trans ((gI_ne _ _ _ _ (by decide)).trans ((gI_nf _ _ (by decide)).trans (gI_ne _ _ _ _ (by decide))))) ?_
        refine fr_iload_n (pc := 67) dX0_addStatement_67 rfl rfl ?_
        refine fr_iload_n (pc := 68) dX0_addStatement_68 rfl rfl ?_
        refine fr_inVV (a := 36) (as := [(0, gI M 36 15), (0, a1), (0, a2)]) (rest := []) (ls' := [(2, 36), (0, gI M 36 15), (0, a1), (0, a2)]) (c1 := 0) (c2 := 0) (pc := 69) dX0_addStatement_69 pl_0_76 rfl ⟨Nat.le_of_ble_eq_true rfl, Nat.le_of_ble_eq_true rfl⟩ rfl rfl rfl s0_36 (Nat.le_of_ble_eq_true rfl) (by omega) rfl rfl (pm_zc _) (hq sc _ (by omega)) (fun M5 hq => ?_)
        exact fr_vret (pc := 72) dX0_addStatement_72 rfl hq
      · refine fr_aload_n (pc := 62) dX0_addStatement_62 rfl rfl ?_
        refine fr_aload_n (pc := 63) dX0_addStatement_63 rfl rfl ?_
        refine fr_getf (a := 36) (i := 15) (v := gI M 36 15) (t := 0) (pc := 64) dX0_addStatement_64 rfl pf_0_57 rfl s0_36 rfl ((gI_nf _ _ (by decide)).trans (gI_ne _ _ _ _ (by decide))) ?_
        refine fr_iload_n (pc := 67) dX0_addStatement_67 rfl rfl ?_
        refine fr_iload_n (pc := 68) dX0_addStatement_68 rfl rfl ?_
        refine fr_inVV (a := 36) (as := [(0, gI M 36 15), (0, a1), (0, a2)]) (rest := []) (ls' := [(2, 36), (0, gI M 36 15), (0, a1), (0, a2)]) (c1 := 0) (c2 := 0) (pc := 69) dX0_addStatement_69 pl_0_76 rfl ⟨Nat.le_of_ble_eq_true rfl, Nat.le_of_ble_eq_true rfl⟩ rfl rfl rfl s0_36 (Nat.le_of_ble_eq_true rfl) (by omega) rfl rfl (pm_zc _) (hq sc _ (by omega)) (fun M7 hq => ?_)
        exact fr_vret (pc := 72) dX0_addStatement_72 rfl hq
    · refine fr_aload_n (pc := 32) dX0_addStatement_32 rfl rfl ?_
      refine fr_getf (a := 36) (i := 15) (v := gI M 36 15) (t := 0) (pc := 33) dX0_addStatement_33 rfl pf_0_57 rfl s0_36 rfl rfl ?_
      refine fr_bipush (pc := 36) dX0_addStatement_36 (by decide) ?_
      refine fr_icm_ge (tg := 62) (pc := 38) dX0_addStatement_38 rfl hq (fun hc9 hq => ?_) (fun hc9 hq => ?_)
      · refine fr_aload_n (pc := 41) dX0_addStatement_41 rfl rfl ?_
        refine fr_getr (a := 36) (pc := 42) dX0_addStatement_42 rfl pf_0_21 s0_36 rfl rf_36_3 ?_
        refine fr_aload_n (pc := 45) dX0_addStatement_45 rfl rfl ?_
        refine fr_getf (a := 36) (i := 15) (v := gI M 36 15) (t := 0) (pc := 46) dX0_addStatement_46 rfl pf_0_57 rfl s0_36 rfl rfl ?_
        refine fr_iload_n (pc := 49) dX0_addStatement_49 rfl rfl ?_
        obtain ⟨hb10, hq⟩ := hq
        refine fr_iastore (a := 40) (pc := 50) dX0_addStatement_50 rfl s0_40 hb10 nr_40 ?_
        refine fr_aload_n (pc := 51) dX0_addStatement_51 rfl rfl ?_
        refine fr_getr (a := 36) (pc := 52) dX0_addStatement_52 rfl pf_0_42 s0_36 rfl rf_36_10 ?_
        refine fr_aload_n (pc := 55) dX0_addStatement_55 rfl rfl ?_
        refine fr_getf (a := 36) (i := 15) (v := gI M 36 15) (t := 0) (pc := 56) dX0_addStatement_56 rfl pf_0_57 rfl s0_36 rfl (gI_ne _ _ _ _ (by decide)) ?_
        refine fr_iload (pc := 59) dX0_addStatement_59 rfl rfl ?_
        refine fr_iastore (a := 47) (pc := 61) dX0_addStatement_61 rfl s0_47 hb10 nr_47 ?_
        refine fr_aload_n (pc := 62) dX0_addStatement_62 rfl rfl ?_
        refine fr_aload_n (pc := 63) dX0_addStatement_63 rfl rfl ?_
        refine fr_getf (a := 36) (i := 15) (v := gI M 36 15) (t := 0) (pc := 64) dX0_addStatement_64 rfl pf_0_57 rfl s0_36 rfl ((gI_ne _ _ _ _ (by decide)).trans (gI_ne _ _ _ _ (by decide))) ?_
        refine fr_iload_n (pc := 67) dX0_addStatement_67 rfl rfl ?_
        refine fr_iload_n (pc := 68) dX0_addStatement_68 rfl rfl ?_
        refine fr_inVV (a := 36) (as := [(0, gI M 36 15), (0, a1), (0, a2)]) (rest := []) (ls' := [(2, 36), (0, gI M 36 15), (0, a1), (0, a2)]) (c1 := 0) (c2 := 0) (pc := 69) dX0_addStatement_69 pl_0_76 rfl ⟨Nat.le_of_ble_eq_true rfl, Nat.le_of_ble_eq_true rfl⟩ rfl rfl rfl s0_36 (Nat.le_of_ble_eq_true rfl) (by omega) rfl rfl (pm_zc _) (hq sc _ (by omega)) (fun M11 hq => ?_)
        exact fr_vret (pc := 72) dX0_addStatement_72 rfl hq
      · refine fr_aload_n (pc := 62) dX0_addStatement_62 rfl rfl ?_
        refine fr_aload_n (pc := 63) dX0_addStatement_63 rfl rfl ?_
        refine fr_getf (a := 36) (i := 15) (v := gI M 36 15) (t := 0) (pc := 64) dX0_addStatement_64 rfl pf_0_57 rfl s0_36 rfl rfl ?_
        refine fr_iload_n (pc := 67) dX0_addStatement_67 rfl rfl ?_
        refine fr_iload_n (pc := 68) dX0_addStatement_68 rfl rfl ?_
        refine fr_inVV (a := 36) (as := [(0, gI M 36 15), (0, a1), (0, a2)]) (rest := []) (ls' := [(2, 36), (0, gI M 36 15), (0, a1), (0, a2)]) (c1 := 0) (c2 := 0) (pc := 69) dX0_addStatement_69 pl_0_76 rfl ⟨Nat.le_of_ble_eq_true rfl, Nat.le_of_ble_eq_true rfl⟩ rfl rfl rfl s0_36 (Nat.le_of_ble_eq_true rfl) (by omega) rfl rfl (pm_zc _) (hq sc _ (by omega)) (fun M13 hq => ?_)
        exact fr_vret (pc := 72) dX0_addStatement_72 rfl hq
theorem k0_insert_r {o : Nat} {a1 a2 a3 : Int} {M : pm_M} {K : pm_M → Prop} (ho : o = 2 ∨ o = 36) (hq : (if gI M o 15 < 60 then (if a1 < 0 then (if a2 = 0 then (if a3 < 0 then K (upI M o 15 (w32 ((gI M o 15) + 1))) else K (upI (upI M o 15 (w32 ((gI M o 15) + 1))) o 18 (pm_ior (gI M o 18) (pm_ishl 1 a3)))) else (if a2 = 5 then (if a3 < 0 then K (upI M o 15 (w32 ((gI M o 15) + 1))) else K (upI (upI M o 15 (w32 ((gI M o 15) + 1))) o 18 (pm_ior (gI M o 18) (pm_ishl 1 a3)))) else K (upI M o 15 (w32 ((gI M o 15) + 1))))) else (if a1 ≤ gI M o 15 then ((0 ≤ w32 ((gI M o 15) - a1) ∧ 0 ≤ w32 (a1 + 1) ∧ 0 ≤ a1 ∧ a1 + w32 ((gI M o 15) - a1) ≤ 60 ∧ w32 (a1 + 1) + w32 ((gI M o 15) - a1) ≤ 60) ∧ ((0 ≤ w32 ((gI M o 15) - a1) ∧ 0 ≤ w32 (a1 + 1) ∧ 0 ≤ a1 ∧ a1 + w32 ((gI M o 15) - a1) ≤ 60 ∧ w32 (a1 + 1) + w32 ((gI M o 15) - a1) ≤ 60) ∧ ((0 ≤ a1 ∧ a1 < 60) ∧ (if a2 = 0 then (if a3 < 0 then K (upI (upI (upI (pm_nw (pm_nw M (o + 1) (fun j => if (w32 (a1 + 1)).toNat ≤ j ∧ j < (w32 (a1 + 1)).toNat + (w32 ((gI M o 15) - a1)).toNat then M (o + 1) (a1.toNat + (j - (w32 (a1 + 1)).toNat)) else M (o + 1) j)) (o + 2) (fun j => if (w32 (a1 + 1)).toNat ≤ j ∧ j < (w32 (a1 + 1)).toNat + (w32 ((gI M o 15) - a1)).toNat then (pm_nw M (o + 1) (fun j => if (w32 (a1 + 1)).toNat ≤ j ∧ j < (w32 (a1 + 1)).toNat + (w32 ((gI M o 15) - a1)).toNat then M (o + 1) (a1.toNat + (j - (w32 (a1 + 1)).toNat)) else M (o + 1) j)) (o + 2) (a1.toNat + (j - (w32 (a1 + 1)).toNat)) else (pm_nw M (o + 1) (fun j => if (w32 (a1 + 1)).toNat ≤ j ∧ j < (w32 (a1 + 1)).toNat + (w32 ((gI M o 15) - a1)).toNat then M (o + 1) (a1.toNat + (j - (w32 (a1 + 1)).toNat)) else M (o + 1) j)) (o + 2) j)) (o + 1) a1 a2) (o + 2) a1 a3) o 15 (w32 ((gI M o 15) + 1))) else K (upI (upI (upI (upI (pm_nw (pm_nw M (o + 1) (fun j => if (w32 (a1 + 1)).toNat ≤ j ∧ j < (w32 (a1 + 1)).toNat + (w32 ((gI M o 15) - a1)).toNat then M (o + 1) (a1.toNat + (j - (w32 (a1 + 1)).toNat)) else M (o + 1) j)) (o + 2) (fun j => if (w32 (a1 + 1)).toNat ≤ j ∧ j < (w32 (a1 + 1)).toNat + (w32 ((gI M o 15) - a1)).toNat then (pm_nw M (o + 1) (fun j => if (w32 (a1 + 1)).toNat ≤ j ∧ j < (w32 (a1 + 1)).toNat + (w32 ((gI M o 15) - a1)).toNat then M (o + 1) (a1.toNat + (j - (w32 (a1 + 1)).toNat)) else M (o + 1) j)) (o + 2) (a1.toNat + (j - (w32 (a1 + 1)).toNat)) else (pm_nw M (o + 1) (fun j => if (w32 (a1 + 1)).toNat ≤ j ∧ j < (w32 (a1 + 1)).toNat + (w32 ((gI M o 15) - a1)).toNat then M (o + 1) (a1.toNat + (j - (w32 (a1 + 1)).toNat)) else M (o + 1) j)) (o + 2) j)) (o + 1) a1 a2) (o + 2) a1 a3) o 15 (w32 ((gI M o 15) + 1))) o 18 (pm_ior (gI M o 18) (pm_ishl 1 a3)))) else (if a2 = 5 then (if a3 < 0 then K (upI (upI (upI (pm_nw (pm_nw M (o + 1) (fun j => if (w32 (a1 + 1)).toNat ≤ j ∧ j < (w32 (a1 + 1)).toNat + (w32 ((gI M o 15) - a1)).toNat then M (o + 1) (a1.toNat + (j - (w32 (a1 + 1)).toNat)) else M (o + 1) j)) (o + 2) (fun j => if (w32 (a1 + 1)).toNat ≤ j ∧ j < (w32 (a1 + 1)).toNat + (w32 ((gI M o 15) - a1)).toNat then (pm_nw M (o + 1) (fun j => if (w32 (a1 + 1)).toNat ≤ j ∧ j < (w32 (a1 + 1)).toNat + (w32 ((gI M o 15) - a1)).toNat then M (o + 1) (a1.toNat + (j - (w32 (a1 + 1)).toNat)) else M (o + 1) j)) (o + 2) (a1.toNat + (j - (w32 (a1 + 1)).toNat)) else (pm_nw M (o + 1) (fun j => if (w32 (a1 + 1)).toNat ≤ j ∧ j < (w32 (a1 + 1)).toNat + (w32 ((gI M o 15) - a1)).toNat then M (o + 1) (a1.toNat + (j - (w32 (a1 + 1)).toNat)) else M (o + 1) j)) (o + 2) j)) (o + 1) a1 a2) (o + 2) a1 a3) o 15 (w32 ((gI M o 15) + 1))) else K (upI (upI (upI (upI (pm_nw (pm_nw M (o + 1) (fun j => if (w32 (a1 + 1)).toNat ≤ j ∧ j < (w32 (a1 + 1)).toNat + (w32 ((gI M o 15) - a1)).toNat then M (o + 1) (a1.toNat + (j - (w32 (a1 + 1)).toNat)) else M (o + 1) j)) (o + 2) (fun j => if (w32 (a1 + 1)).toNat ≤ j ∧ j < (w32 (a1 + 1)).toNat + (w32 ((gI M o 15) - a1)).toNat then (pm_nw M (o + 1) (fun j => if (w32 (a1 + 1)).toNat ≤ j ∧ j < (w32 (a1 + 1)).toNat + (w32 ((gI M o 15) - a1)).toNat then M (o + 1) (a1.toNat + (j - (w32 (a1 + 1)).toNat)) else M (o + 1) j)) (o + 2) (a1.toNat + (j - (w32 (a1 + 1)).toNat)) else (pm_nw M (o + 1) (fun j => if (w32 (a1 + 1)).toNat ≤ j ∧ j < (w32 (a1 + 1)).toNat + (w32 ((gI M o 15) - a1)).toNat then M (o + 1) (a1.toNat + (j - (w32 (a1 + 1)).toNat)) else M (o + 1) j)) (o + 2) j)) (o + 1) a1 a2) (o + 2) a1 a3) o 15 (w32 ((gI M o 15) + 1))) o 18 (pm_ior (gI M o 18) (pm_ishl 1 a3)))) else K (upI (upI (upI (pm_nw (pm_nw M (o + 1) (fun j => if (w32 (a1 + 1)).toNat ≤ j ∧ j < (w32 (a1 + 1)).toNat + (w32 ((gI M o 15) - a1)).toNat then M (o + 1) (a1.toNat + (j - (w32 (a1 + 1)).toNat)) else M (o + 1) j)) (o + 2) (fun j => if (w32 (a1 + 1)).toNat ≤ j ∧ j < (w32 (a1 + 1)).toNat + (w32 ((gI M o 15) - a1)).toNat then (pm_nw M (o + 1) (fun j => if (w32 (a1 + 1)).toNat ≤ j ∧ j < (w32 (a1 + 1)).toNat + (w32 ((gI M o 15) - a1)).toNat then M (o + 1) (a1.toNat + (j - (w32 (a1 + 1)).toNat)) else M (o + 1) j)) (o + 2) (a1.toNat + (j - (w32 (a1 + 1)).toNat)) else (pm_nw M (o + 1) (fun j => if (w32 (a1 + 1)).toNat ≤ j ∧ j < (w32 (a1 + 1)).toNat + (w32 ((gI M o 15) - a1)).toNat then M (o + 1) (a1.toNat + (j - (w32 (a1 + 1)).toNat)) else M (o + 1) j)) (o + 2) j)) (o + 1) a1 a2) (o + 2) a1 a3) o 15 (w32 ((gI M o 15) + 1)))))))) else (if a2 = 0 then (if a3 < 0 then K (upI M o 15 (w32 ((gI M o 15) + 1))) else K (upI (upI M o 15 (w32 ((gI M o 15) + 1))) o 18 (pm_ior (gI M o 18) (pm_ishl 1 a3)))) else (if a2 = 5 then (if a3 < 0 then K (upI M o 15 (w32 ((gI M o 15) + 1))) else K (upI (upI M o 15 (w32 ((gI M o 15) + 1))) o 18 (pm_ior (gI M o 18) (pm_ishl 1 a3)))) else K (upI M o 15 (w32 ((gI M o 15) + 1))))))) else (if a2 = 0 then (if a3 < 0 then K (upI M o 15 (w32 ((gI M o 15) + 1))) else K (upI (upI M o 15 (w32 ((gI M o 15) + 1))) o 18 (pm_ior (gI M o 18) (pm_ishl 1 a3)))) else (if a2 = 5 then (if a3 < 0 then K (upI M o 15 (w32 ((gI M o 15) + 1))) else K (upI (upI M o 15 (w32 ((gI M o 15) + 1))) o 18 (pm_ior (gI M o 18) (pm_ishl 1 a3)))) else K (upI M o 15 (w32 ((gI M o 15) + 1))))))) : k0_insert o a1 a2 a3 M K := by
  intro sc d hd
  rcases ho with rfl | rfl
  · refine fr_aload_n (pc := 0) dX0_insert_0 rfl rfl ?_
    refine fr_getf (a := 2) (i := 15) (v := gI M 2 15) (t := 0) (pc := 1) dX0_insert_1 rfl pf_0_57 rfl s0_2 rfl rfl ?_
    refine fr_bipush (pc := 4) dX0_insert_4 (by decide) ?_
    refine fr_icm_ge (tg := 77) (pc := 6) dX0_insert_6 rfl hq (fun hc1 hq => ?_) (fun hc1 hq => ?_)
    · refine fr_iload_n (pc := 9) dX0_insert_9 rfl rfl ?_
      refine fr_ifc_lt (tg := 77) (pc := 10) dX0_insert_10 rfl hq (fun hc2 hq => ?_) (fun hc2 hq => ?_)
      · refine fr_aload_n (pc := 77) dX0_insert_77 rfl rfl ?_
        refine fr_dup (pc := 78) dX0_insert_78 pm_t2 ?_
        refine fr_getf (a := 2) (i := 15) (v := gI M 2 15) (t := 0) (pc := 79) dX0_insert_79 rfl pf_0_57 rfl s0_2 rfl rfl ?_
        refine fr_iconst (pc := 82) dX0_insert_82 (by decide) ?_
        refine fr_iadd (z := w32 ((gI M 2 15) + 1)) (pc := 83) dX0_insert_83 rfl ?_
        refine fr_put (a := 2) (i := 15) (pc := 84) dX0_insert_84 rfl pf_0_57 rfl s0_2 rfl rfl nf_2_15 rfl ?_
        refine fr_iload_n (pc := 87) dX0_insert_87 rfl rfl ?_
        refine fr_ifc_eq (tg := 96) (pc := 88) dX0_insert_88 rfl hq (fun hc3 hq => ?_) (fun hc3 hq => ?_)
        · refine fr_iload_n (pc := 96) dX0_insert_96 rfl rfl ?_
          refine fr_ifc_lt (tg := 112) (pc := 97) dX0_insert_97 rfl hq (fun hc4 hq => ?_) (fun hc4 hq => ?_)
          · exact fr_vret (pc := 112) dX0_insert_112 rfl hq
          · refine fr_aload_n (pc := 100) dX0_insert_100 rfl rfl ?_
            refine fr_dup (pc := 101) dX0_insert_101 pm_t2 ?_
            refine fr_getf (a := 2) (i := 18) (v := gI M 2 18) (t := 0) (pc := 102) dX0_insert_102 rfl pf_0_67 rfl s0_2 rfl (gI_nf _ _ (by decide)) ?_
            refine fr_iconst (pc := 105) dX0_insert_105 (by decide) ?_
            refine fr_iload_n (pc := 106) dX0_insert_106 rfl rfl ?_
            refine fr_ishl (z := pm_ishl 1 a3) (pc := 107) dX0_insert_107 rfl ?_
            refine fr_ior (z := pm_ior (gI M 2 18) (pm_ishl 1 a3)) (pc := 108) dX0_insert_108 rfl ?_
            refine fr_put (a := 2) (i := 18) (pc := 109) dX0_insert_109 rfl pf_0_67 rfl s0_2 rfl rfl nf_2_18 rfl ?_
            exact fr_vret (pc := 112) dX0_insert_112 rfl hq
        · refine fr_iload_n (pc := 91) dX0_insert_91 rfl rfl ?_
          refine fr_iconst (pc := 92) dX0_insert_92 (by decide) ?_
          refine fr_icm_ne (tg := 112) (pc := 93) dX0_insert_93 rfl hq (fun hc5 hq => ?_) (fun hc5 hq => ?_)
          · refine fr_iload_n (pc := 96) dX0_insert_96 rfl rfl ?_
            refine fr_ifc_lt (tg := 112) (pc := 97) dX0_insert_97 rfl hq (fun hc6 hq => ?_) (fun hc6 hq => ?_)
            · exact fr_vret (pc := 112) dX0_insert_112 rfl hq
            · refine fr_aload_n (pc := 100) dX0_insert_100 rfl rfl ?_
              refine fr_dup (pc := 101) dX0_insert_101 pm_t2 ?_
              refine fr_getf (a := 2) (i := 18) (v := gI M 2 18) (t := 0) (pc := 102) dX0_insert_102 rfl pf_0_67 rfl s0_2 rfl (gI_nf _ _ (by decide)) ?_
              refine fr_iconst (pc := 105) dX0_insert_105 (by decide) ?_
              refine fr_iload_n (pc := 106) dX0_insert_106 rfl rfl ?_
              refine fr_ishl (z := pm_ishl 1 a3) (pc := 107) dX0_insert_107 rfl ?_
              refine fr_ior (z := pm_ior (gI M 2 18) (pm_ishl 1 a3)) (pc := 108) dX0_insert_108 rfl ?_
              refine fr_put (a := 2) (i := 18) (pc := 109) dX0_insert_109 rfl pf_0_67 rfl s0_2 rfl rfl nf_2_18 rfl ?_
              exact fr_vret (pc := 112) dX0_insert_112 rfl hq
          · exact fr_vret (pc := 112) dX0_insert_112 rfl hq
      · refine fr_iload_n (pc := 13) dX0_insert_13 rfl rfl ?_
        refine fr_aload_n (pc := 14) dX0_insert_14 rfl rfl ?_
        refine fr_getf (a := 2) (i := 15) (v := gI M 2 15) (t := 0) (pc := 15) dX0_insert_15 rfl pf_0_57 rfl s0_2 rfl rfl ?_
        refine fr_icm_gt (tg := 77) (pc := 18) dX0_insert_18 rfl hq (fun hc7 hq => ?_) (fun hc7 hq => ?_)
        · refine fr_aload_n (pc := 21) dX0_insert_21 rfl rfl ?_
          refine fr_getr (a := 2) (pc := 22) dX0_insert_22 rfl pf_0_9 s0_2 rfl rf_2_0 ?_
          refine fr_iload_n (pc := 25) dX0_insert_25 rfl rfl ?_
          refine fr_aload_n (pc := 26) dX0_insert_26 rfl rfl ?_
          refine fr_getr (a := 2) (pc := 27) dX0_insert_27 rfl pf_0_9 s0_2 rfl rf_2_0 ?_
          refine fr_iload_n (pc := 30) dX0_insert_30 rfl rfl ?_
          refine fr_iconst (pc := 31) dX0_insert_31 (by decide) ?_
          refine fr_iadd (z := w32 (a1 + 1)) (pc := 32) dX0_insert_32 rfl ?_
          refine fr_aload_n (pc := 33) dX0_insert_33 rfl rfl ?_
          refine fr_getf (a := 2) (i := 15) (v := gI M 2 15) (t := 0) (pc := 34) dX0_insert_34 rfl pf_0_57 rfl s0_2 rfl rfl ?_
          refine fr_iload_n (pc := 37) dX0_insert_37 rfl rfl ?_
          refine fr_isub (z := w32 ((gI M 2 15) - a1)) (pc := 38) dX0_insert_38 rfl ?_
          obtain ⟨hb8, hq⟩ := hq
          refine fr_cpy (sa := 3) (sb := 3) (pc := 39) dX0_insert_39 pl_0_80 rfl (Nat.le_of_ble_eq_true rfl) rfl rfl s0_3 s0_3 nr_3 hb8 ?_
          refine fr_aload_n (pc := 42) dX0_insert_42 rfl rfl ?_
          refine fr_getr (a := 2) (pc := 43) dX0_insert_43 rfl pf_0_15 s0_2 rfl rf_2_1 ?_
          refine fr_iload_n (pc := 46) dX0_insert_46 rfl rfl ?_
          refine fr_aload_n (pc := 47) dX0_insert_47 rfl rfl ?_
          refine fr_getr (a := 2) (pc := 48) dX0_insert_48 rfl pf_0_15 s0_2 rfl rf_2_1 ?_
          refine fr_iload_n (pc := 51) dX0_insert_51 rfl rfl ?_
          refine fr_iconst (pc := 52) dX0_insert_52 (by decide) ?_
          refine fr_iadd (z := w32 (a1 + 1)) (pc := 53) dX0_insert_53 rfl ?_
          refine fr_aload_n (pc := 54) dX0_insert_54 rfl rfl ?_
          refine fr_getf (a := 2) (i := 15) (v := gI M 2 15) (t := 0) (pc := 55) dX0_insert_55 rfl pf_0_57 rfl s0_2 rfl (gI_nwn _ _ _ (by decide)) ?_
          refine fr_iload_n (pc := 58) dX0_insert_58 rfl rfl ?_
          refine fr_isub (z := w32 ((gI M 2 15) - a1)) (pc := 59) dX0_insert_59 rfl ?_
          obtain ⟨hb9, hq⟩ := hq
          refine fr_cpy (sa := 4) (sb := 4) (pc := 60) dX0_insert_60 pl_0_80 rfl (Nat.le_of_ble_eq_true rfl) rfl rfl s0_4 s0_4 nr_4 hb9 ?_
          refine fr_aload_n (pc := 63) dX0_insert_63 rfl rfl ?_
          refine fr_getr (a := 2) (pc := 64) dX0_insert_64 rfl pf_0_9 s0_2 rfl rf_2_0 ?_
          refine fr_iload_n (pc := 67) dX0_insert_67 rfl rfl ?_
          refine fr_iload_n (pc := 68) dX0_insert_68 rfl rfl ?_
          obtain ⟨hb10, hq⟩ := hq
          refine fr_iastore (a := 3) (pc := 69) dX0_insert_69 rfl s0_3 hb10 nr_3 ?_
          refine fr_aload_n (pc := 70) dX0_insert_70 rfl rfl ?_
          refine fr_getr (a := 2) (pc := 71) dX0_insert_71 rfl pf_0_15 s0_2 rfl rf_2_1 ?_
          refine fr_iload_n (pc := 74) dX0_insert_74 rfl rfl ?_
          refine fr_iload_n (pc := 75) dX0_insert_75 rfl rfl ?_
          refine fr_iastore (a := 4) (pc := 76) dX0_insert_76 rfl s0_4 hb10 nr_4 ?_
          refine fr_aload_n (pc := 77) dX0_insert_77 rfl rfl ?_
          refine fr_dup (pc := 78) dX0_insert_78 pm_t2 ?_
          refine fr_getf (a := 2) (i := 15) (v := gI M 2 15) (t := 0) (pc := 79) dX0_insert_79 rfl pf_0_57 rfl s0_2 rfl ((gI_ne _ _ _ _ (by decide)).trans ((gI_ne _ _ _ _ (by decide)).trans ((gI_nwn _ _ _ (by decide)).trans (gI_nwn _ _ _ (by decide))))) ?_
          refine fr_iconst (pc := 82) dX0_insert_82 (by decide) ?_
          refine fr_iadd (z := w32 ((gI M 2 15) + 1)) (pc := 83) dX0_insert_83 rfl ?_
          refine fr_put (a := 2) (i := 15) (pc := 84) dX0_insert_84 rfl pf_0_57 rfl s0_2 rfl rfl nf_2_15 rfl ?_
          refine fr_iload_n (pc := 87) dX0_insert_87 rfl rfl ?_
          refine fr_ifc_eq (tg := 96) (pc := 88) dX0_insert_88 rfl hq (fun hc11 hq => ?_) (fun hc11 hq => ?_)
          · refine fr_iload_n (pc := 96) dX0_insert_96 rfl rfl ?_
            refine fr_ifc_lt (tg := 112) (pc := 97) dX0_insert_97 rfl hq (fun hc12 hq => ?_) (fun hc12 hq => ?_)
            · exact fr_vret (pc := 112) dX0_insert_112 rfl hq
            · refine fr_aload_n (pc := 100) dX0_insert_100 rfl rfl ?_
              refine fr_dup (pc := 101) dX0_insert_101 pm_t2 ?_
              refine fr_getf (a := 2) (i := 18) (v := gI M 2 18) (t := 0) (pc := 102) dX0_insert_102 rfl pf_0_67 rfl s0_2 rfl ((gI_nf _ _ (by decide)).trans ((gI_ne _ _ _ _ (by decide)).trans ((gI_ne _ _ _ _ (by decide)).trans ((gI_nwn _ _ _ (by decide)).trans (gI_nwn _ _ _ (by decide)))))) ?_
              refine fr_iconst (pc := 105) dX0_insert_105 (by decide) ?_
              refine fr_iload_n (pc := 106) dX0_insert_106 rfl rfl ?_
              refine fr_ishl (z := pm_ishl 1 a3) (pc := 107) dX0_insert_107 rfl ?_
              refine fr_ior (z := pm_ior (gI M 2 18) (pm_ishl 1 a3)) (pc := 108) dX0_insert_108 rfl ?_
              refine fr_put (a := 2) (i := 18) (pc := 109) dX0_insert_109 rfl pf_0_67 rfl s0_2 rfl rfl nf_2_18 rfl ?_
              exact fr_vret (pc := 112) dX0_insert_112 rfl hq
          · refine fr_iload_n (pc := 91) dX0_insert_91 rfl rfl ?_
            refine fr_iconst (pc := 92) dX0_insert_92 (by decide) ?_
            refine fr_icm_ne (tg := 112) (pc := 93) dX0_insert_93 rfl hq (fun hc13 hq => ?_) (fun hc13 hq => ?_)
            · refine fr_iload_n (pc := 96) dX0_insert_96 rfl rfl ?_
              refine fr_ifc_lt (tg := 112) (pc := 97) dX0_insert_97 rfl hq (fun hc14 hq => ?_) (fun hc14 hq => ?_)
              · exact fr_vret (pc := 112) dX0_insert_112 rfl hq
              · refine fr_aload_n (pc := 100) dX0_insert_100 rfl rfl ?_
                refine fr_dup (pc := 101) dX0_insert_101 pm_t2 ?_
                refine fr_getf (a := 2) (i := 18) (v := gI M 2 18) (t := 0) (pc := 102) dX0_insert_102 rfl pf_0_67 rfl s0_2 rfl ((gI_nf _ _ (by decide)).trans ((gI_ne _ _ _ _ (by decide)).trans ((gI_ne _ _ _ _ (by decide)).trans ((gI_nwn _ _ _ (by decide)).trans (gI_nwn _ _ _ (by decide)))))) ?_
                refine fr_iconst (pc := 105) dX0_insert_105 (by decide) ?_
                refine fr_iload_n (pc := 106) dX0_insert_106 rfl rfl ?_
                refine fr_ishl (z := pm_ishl 1 a3) (pc := 107) dX0_insert_107 rfl ?_
                refine fr_ior (z := pm_ior (gI M 2 18) (pm_ishl 1 a3)) (pc := 108) dX0_insert_108 rfl ?_
                refine fr_put (a := 2) (i := 18) (pc := 109) dX0_insert_109 rfl pf_0_67 rfl s0_2 rfl rfl nf_2_18 rfl ?_
                exact fr_vret (pc := 112) dX0_insert_112 rfl hq
            · exact fr_vret (pc := 112) dX0_insert_112 rfl hq
        · refine fr_aload_n (pc := 77) dX0_insert_77 rfl rfl ?_
          refine fr_dup (pc := 78) dX0_insert_78 pm_t2 ?_
          refine fr_getf (a := 2) (i := 15) (v := gI M 2 15) (t := 0) (pc := 79) dX0_insert_79 rfl pf_0_57 rfl s0_2 rfl rfl ?_
          refine fr_iconst (pc := 82) dX0_insert_82 (by decide) ?_
          refine fr_iadd (z := w32 ((gI M 2 15) + 1)) (pc := 83) dX0_insert_83 rfl ?_
          refine fr_put (a := 2) (i := 15) (pc := 84) dX0_insert_84 rfl pf_0_57 rfl s0_2 rfl rfl nf_2_15 rfl ?_
          refine fr_iload_n (pc := 87) dX0_insert_87 rfl rfl ?_
          refine fr_ifc_eq (tg := 96) (pc := 88) dX0_insert_88 rfl hq (fun hc15 hq => ?_) (fun hc15 hq => ?_)
          · refine fr_iload_n (pc := 96) dX0_insert_96 rfl rfl ?_
            refine fr_ifc_lt (tg := 112) (pc := 97) dX0_insert_97 rfl hq (fun hc16 hq => ?_) (fun hc16 hq => ?_)
            · exact fr_vret (pc := 112) dX0_insert_112 rfl hq
            · refine fr_aload_n (pc := 100) dX0_insert_100 rfl rfl ?_
              refine fr_dup (pc := 101) dX0_insert_101 pm_t2 ?_
              refine fr_getf (a := 2) (i := 18) (v := gI M 2 18) (t := 0) (pc := 102) dX0_insert_102 rfl pf_0_67 rfl s0_2 rfl (gI_nf _ _ (by decide)) ?_
              refine fr_iconst (pc := 105) dX0_insert_105 (by decide) ?_
              refine fr_iload_n (pc := 106) dX0_insert_106 rfl rfl ?_
              refine fr_ishl (z := pm_ishl 1 a3) (pc := 107) dX0_insert_107 rfl ?_
              refine fr_ior (z := pm_ior (gI M 2 18) (pm_ishl 1 a3)) (pc := 108) dX0_insert_108 rfl ?_
              refine fr_put (a := 2) (i := 18) (pc := 109) dX0_insert_109 rfl pf_0_67 rfl s0_2 rfl rfl nf_2_18 rfl ?_
              exact fr_vret (pc := 112) dX0_insert_112 rfl hq
          · refine fr_iload_n (pc := 91) dX0_insert_91 rfl rfl ?_
            refine fr_iconst (pc := 92) dX0_insert_92 (by decide) ?_
            refine fr_icm_ne (tg := 112) (pc := 93) dX0_insert_93 rfl hq (fun hc17 hq => ?_) (fun hc17 hq => ?_)
            · refine fr_iload_n (pc := 96) dX0_insert_96 rfl rfl ?_
              refine fr_ifc_lt (tg := 112) (pc := 97) dX0_insert_97 rfl hq (fun hc18 hq => ?_) (fun hc18 hq => ?_)
              · exact fr_vret (pc := 112) dX0_insert_112 rfl hq
              · refine fr_aload_n (pc := 100) dX0_insert_100 rfl rfl ?_
                refine fr_dup (pc := 101) dX0_insert_101 pm_t2 ?_
                refine fr_getf (a := 2) (i := 18) (v := gI M 2 18) (t := 0) (pc := 102) dX0_insert_102 rfl pf_0_67 rfl s0_2 rfl (gI_nf _ _ (by decide)) ?_
                refine fr_iconst (pc := 105) dX0_insert_105 (by decide) ?_
                refine fr_iload_n (pc := 106) dX0_insert_106 rfl rfl ?_
                refine fr_ishl (z := pm_ishl 1 a3) (pc := 107) dX0_insert_107 rfl ?_
                refine fr_ior (z := pm_ior (gI M 2 18) (pm_ishl 1 a3)) (pc := 108) dX0_insert_108 rfl ?_
                refine fr_put (a := 2) (i := 18) (pc := 109) dX0_insert_109 rfl pf_0_67 rfl s0_2 rfl rfl nf_2_18 rfl ?_
                exact fr_vret (pc := 112) dX0_insert_112 rfl hq
            · exact fr_vret (pc := 112) dX0_insert_112 rfl hq
    · refine fr_aload_n (pc := 77) dX0_insert_77 rfl rfl ?_
      refine fr_dup (pc := 78) dX0_insert_78 pm_t2 ?_
      refine fr_getf (a := 2) (i := 15) (v := gI M 2 15) (t := 0) (pc := 79) dX0_insert_79 rfl pf_0_57 rfl s0_2 rfl rfl ?_
      refine fr_iconst (pc := 82) dX0_insert_82 (by decide) ?_
      refine fr_iadd (z := w32 ((gI M 2 15) + 1)) (pc := 83) dX0_insert_83 rfl ?_
      refine fr_put (a := 2) (i := 15) (pc := 84) dX0_insert_84 rfl pf_0_57 rfl s0_2 rfl rfl nf_2_15 rfl ?_
      refine fr_iload_n (pc := 87) dX0_insert_87 rfl rfl ?_
      refine fr_ifc_eq (tg := 96) (pc := 88) dX0_insert_88 rfl hq (fun hc19 hq => ?_) (fun hc19 hq => ?_)
      · refine fr_iload_n (pc := 96) dX0_insert_96 rfl rfl ?_
        refine fr_ifc_lt (tg := 112) (pc := 97) dX0_insert_97 rfl hq (fun hc20 hq => ?_) (fun hc20 hq => ?_)
        · exact fr_vret (pc := 112) dX0_insert_112 rfl hq
        · refine fr_aload_n (pc := 100) dX0_insert_100 rfl rfl ?_
          refine fr_dup (pc := 101) dX0_insert_101 pm_t2 ?_
          refine fr_getf (a := 2) (i := 18) (v := gI M 2 18) (t := 0) (pc := 102) dX0_insert_102 rfl pf_0_67 rfl s0_2 rfl (gI_nf _ _ (by decide)) ?_
          refine fr_iconst (pc := 105) dX0_insert_105 (by decide) ?_
          refine fr_iload_n (pc := 106) dX0_insert_106 rfl rfl ?_
          refine fr_ishl (z := pm_ishl 1 a3) (pc := 107) dX0_insert_107 rfl ?_
          refine fr_ior (z := pm_ior (gI M 2 18) (pm_ishl 1 a3)) (pc := 108) dX0_insert_108 rfl ?_
          refine fr_put (a := 2) (i := 18) (pc := 109) dX0_insert_109 rfl pf_0_67 rfl s0_2 rfl rfl nf_2_18 rfl ?_
          exact fr_vret (pc := 112) dX0_insert_112 rfl hq
      · refine fr_iload_n (pc := 91) dX0_insert_91 rfl rfl ?_
        refine fr_iconst (pc := 92) dX0_insert_92 (by decide) ?_
        refine fr_icm_ne (tg := 112) (pc := 93) dX0_insert_93 rfl hq (fun hc21 hq => ?_) (fun hc21 hq => ?_)
        · refine fr_iload_n (pc := 96) dX0_insert_96 rfl rfl ?_
          refine fr_ifc_lt (tg := 112) (pc := 97) dX0_insert_97 rfl hq (fun hc22 hq => ?_) (fun hc22 hq => ?_)
          · exact fr_vret (pc := 112) dX0_insert_112 rfl hq
          · refine fr_aload_n (pc := 100) dX0_insert_100 rfl rfl ?_
            refine fr_dup (pc := 101) dX0_insert_101 pm_t2 ?_
            refine fr_getf (a := 2) (i := 18) (v := gI M 2 18) (t := 0) (pc := 102) dX0_insert_102 rfl pf_0_67 rfl s0_2 rfl (gI_nf _ _ (by decide)) ?_
            refine fr_iconst (pc := 105) dX0_insert_105 (by decide) ?_
            refine fr_iload_n (pc := 106) dX0_insert_106 rfl rfl ?_
            refine fr_ishl (z := pm_ishl 1 a3) (pc := 107) dX0_insert_107 rfl ?_
            refine fr_ior (z := pm_ior (gI M 2 18) (pm_ishl 1 a3)) (pc := 108) dX0_insert_108 rfl ?_
            refine fr_put (a := 2) (i := 18) (pc := 109) dX0_insert_109 rfl pf_0_67 rfl s0_2 rfl rfl nf_2_18 rfl ?_
            exact fr_vret (pc := 112) dX0_insert_112 rfl hq
        · exact fr_vret (pc := 112) dX0_insert_112 rfl hq
  · refine fr_aload_n (pc := 0) dX0_insert_0 rfl rfl ?_
    refine fr_getf (a := 36) (i := 15) (v := gI M 36 15) (t := 0) (pc := 1) dX0_insert_1 rfl pf_0_57 rfl s0_36 rfl rfl ?_
    refine fr_bipush (pc := 4) dX0_insert_4 (by decide) ?_
    refine fr_icm_ge (tg := 77) (pc := 6) dX0_insert_6 rfl hq (fun hc1 hq => ?_) (fun hc1 hq => ?_)
    · refine fr_iload_n (pc := 9) dX0_insert_9 rfl rfl ?_
      refine fr_ifc_lt (tg := 77) (pc := 10) dX0_insert_10 rfl hq (fun hc2 hq => ?_) (fun hc2 hq => ?_)
      · refine fr_aload_n (pc := 77) dX0_insert_77 rfl rfl ?_
        refine fr_dup (pc := 78) dX0_insert_78 pm_t2 ?_
        refine fr_getf (a := 36) (i := 15) (v := gI M 36 15) (t := 0) (pc := 79) dX0_insert_79 rfl pf_0_57 rfl s0_36 rfl rfl ?_
        refine fr_iconst (pc := 82) dX0_insert_82 (by decide) ?_
        refine fr_iadd (z := w32 ((gI M 36 15) + 1)) (pc := 83) dX0_insert_83 rfl ?_
        refine fr_put (a := 36) (i := 15) (pc := 84) dX0_insert_84 rfl pf_0_57 rfl s0_36 rfl rfl nf_36_15 rfl ?_
        refine fr_iload_n (pc := 87) dX0_insert_87 rfl rfl ?_
        refine fr_ifc_eq (tg := 96) (pc := 88) dX0_insert_88 rfl hq (fun hc3 hq => ?_) (fun hc3 hq => ?_)
        · refine fr_iload_n (pc := 96) dX0_insert_96 rfl rfl ?_
          refine fr_ifc_lt (tg := 112) (pc := 97) dX0_insert_97 rfl hq (fun hc4 hq => ?_) (fun hc4 hq => ?_)
          · exact fr_vret (pc := 112) dX0_insert_112 rfl hq
          · refine fr_aload_n (pc := 100) dX0_insert_100 rfl rfl ?_
            refine fr_dup (pc := 101) dX0_insert_101 pm_t2 ?_
            refine fr_getf (a := 36) (i := 18) (v := gI M 36 18) (t := 0) (pc := 102) dX0_insert_102 rfl pf_0_67 rfl s0_36 rfl (gI_nf _ _ (by decide)) ?_
            refine fr_iconst (pc := 105) dX0_insert_105 (by decide) ?_
            refine fr_iload_n (pc := 106) dX0_insert_106 rfl rfl ?_
            refine fr_ishl (z := pm_ishl 1 a3) (pc := 107) dX0_insert_107 rfl ?_
            refine fr_ior (z := pm_ior (gI M 36 18) (pm_ishl 1 a3)) (pc := 108) dX0_insert_108 rfl ?_
            refine fr_put (a := 36) (i := 18) (pc := 109) dX0_insert_109 rfl pf_0_67 rfl s0_36 rfl rfl nf_36_18 rfl ?_
            exact fr_vret (pc := 112) dX0_insert_112 rfl hq
        · refine fr_iload_n (pc := 91) dX0_insert_91 rfl rfl ?_
          refine fr_iconst (pc := 92) dX0_insert_92 (by decide) ?_
          refine fr_icm_ne (tg := 112) (pc := 93) dX0_insert_93 rfl hq (fun hc5 hq => ?_) (fun hc5 hq => ?_)
          · refine fr_iload_n (pc := 96) dX0_insert_96 rfl rfl ?_
            refine fr_ifc_lt (tg := 112) (pc := 97) dX0_insert_97 rfl hq (fun hc6 hq => ?_) (fun hc6 hq => ?_)
            · exact fr_vret (pc := 112) dX0_insert_112 rfl hq
            · refine fr_aload_n (pc := 100) dX0_insert_100 rfl rfl ?_
              refine fr_dup (pc := 101) dX0_insert_101 pm_t2 ?_
              refine fr_getf (a := 36) (i := 18) (v := gI M 36 18) (t := 0) (pc := 102) dX0_insert_102 rfl pf_0_67 rfl s0_36 rfl (gI_nf _ _ (by decide)) ?_
              refine fr_iconst (pc := 105) dX0_insert_105 (by decide) ?_
              refine fr_iload_n (pc := 106) dX0_insert_106 rfl rfl ?_
              refine fr_ishl (z := pm_ishl 1 a3) (pc := 107) dX0_insert_107 rfl ?_
              refine fr_ior (z := pm_ior (gI M 36 18) (pm_ishl 1 a3)) (pc := 108) dX0_insert_108 rfl ?_
              refine fr_put (a := 36) (i := 18) (pc := 109) dX0_insert_109 rfl pf_0_67 rfl s0_36 rfl rfl nf_36_18 rfl ?_
              exact fr_vret (pc := 112) dX0_insert_112 rfl hq
          · exact fr_vret (pc := 112) dX0_insert_112 rfl hq
      · refine fr_iload_n (pc := 13) dX0_insert_13 rfl rfl ?_
        refine fr_aload_n (pc := 14) dX0_insert_14 rfl rfl ?_
        refine fr_getf (a := 36) (i := 15) (v := gI M 36 15) (t := 0) (pc := 15) dX0_insert_15 rfl pf_0_57 rfl s0_36 rfl rfl ?_
        refine fr_icm_gt (tg := 77) (pc := 18) dX0_insert_18 rfl hq (fun hc7 hq => ?_) (fun hc7 hq => ?_)
        · refine fr_aload_n (pc := 21) dX0_insert_21 rfl rfl ?_
          refine fr_getr (a := 36) (pc := 22) dX0_insert_22 rfl pf_0_9 s0_36 rfl rf_36_0 ?_
          refine fr_iload_n (pc := 25) dX0_insert_25 rfl rfl ?_
          refine fr_aload_n (pc := 26) dX0_insert_26 rfl rfl ?_
          refine fr_getr (a := 36) (pc := 27) dX0_insert_27 rfl pf_0_9 s0_36 rfl rf_36_0 ?_
          refine fr_iload_n (pc := 30) dX0_insert_30 rfl rfl ?_
          refine fr_iconst (pc := 31) dX0_insert_31 (by decide) ?_
          refine fr_iadd (z := w32 (a1 + 1)) (pc := 32) dX0_insert_32 rfl ?_
          refine fr_aload_n (pc := 33) dX0_insert_33 rfl rfl ?_
          refine fr_getf (a := 36) (i := 15) (v := gI M 36 15) (t := 0) (pc := 34) dX0_insert_34 rfl pf_0_57 rfl s0_36 rfl rfl ?_
          refine fr_iload_n (pc := 37) dX0_insert_37 rfl rfl ?_
          refine fr_isub (z := w32 ((gI M 36 15) - a1)) (pc := 38) dX0_insert_38 rfl ?_
          obtain ⟨hb8, hq⟩ := hq
          refine fr_cpy (sa := 37) (sb := 37) (pc := 39) dX0_insert_39 pl_0_80 rfl (Nat.le_of_ble_eq_true rfl) rfl rfl s0_37 s0_37 nr_37 hb8 ?_
          refine fr_aload_n (pc := 42) dX0_insert_42 rfl rfl ?_
          refine fr_getr (a := 36) (pc := 43) dX0_insert_43 rfl pf_0_15 s0_36 rfl rf_36_1 ?_
          refine fr_iload_n (pc := 46) dX0_insert_46 rfl rfl ?_
          refine fr_aload_n (pc := 47) dX0_insert_47 rfl rfl ?_
          refine fr_getr (a := 36) (pc := 48) dX0_insert_48 rfl pf_0_15 s0_36 rfl rf_36_1 ?_
          refine fr_iload_n (pc := 51) dX0_insert_51 rfl rfl ?_
          refine fr_iconst (pc := 52) dX0_insert_52 (by decide) ?_
          refine fr_iadd (z := w32 (a1 + 1)) (pc := 53) dX0_insert_53 rfl ?_
          refine fr_aload_n (pc := 54) dX0_insert_54 rfl rfl ?_
          refine fr_getf (a := 36) (i := 15) (v := gI M 36 15) (t := 0) (pc := 55) dX0_insert_55 rfl pf_0_57 rfl s0_36 rfl (gI_nwn _ _ _ (by decide)) ?_
          refine fr_iload_n (pc := 58) dX0_insert_58 rfl rfl ?_
          refine fr_isub (z := w32 ((gI M 36 15) - a1)) (pc := 59) dX0_insert_59 rfl ?_
          obtain ⟨hb9, hq⟩ := hq
          refine fr_cpy (sa := 38) (sb := 38) (pc := 60) dX0_insert_60 pl_0_80 rfl (Nat.le_of_ble_eq_true rfl) rfl rfl s0_38 s0_38 nr_38 hb9 ?_
          refine fr_aload_n (pc := 63) dX0_insert_63 rfl rfl ?_
          refine fr_getr (a := 36) (pc := 64) dX0_insert_64 rfl pf_0_9 s0_36 rfl rf_36_0 ?_
          refine fr_iload_n (pc := 67) dX0_insert_67 rfl rfl ?_
          refine fr_iload_n (pc := 68) dX0_insert_68 rfl rfl ?_
          obtain ⟨hb10, hq⟩ := hq
          refine fr_iastore (a := 37) (pc := 69) dX0_insert_69 rfl s0_37 hb10 nr_37 ?_
          refine fr_aload_n (pc := 70) dX0_insert_70 rfl rfl ?_
          refine fr_getr (a := 36) (pc := 71) dX0_insert_71 rfl pf_0_15 s0_36 rfl rf_36_1 ?_
          refine fr_iload_n (pc := 74) dX0_insert_74 rfl rfl ?_
          refine fr_iload_n (pc := 75) dX0_insert_75 rfl rfl ?_
          refine fr_iastore (a := 38) (pc := 76) dX0_insert_76 rfl s0_38 hb10 nr_38 ?_
          refine fr_aload_n (pc := 77) dX0_insert_77 rfl rfl ?_
          refine fr_dup (pc := 78) dX0_insert_78 pm_t2 ?_
          refine fr_getf (a := 36) (i := 15) (v := gI M 36 15) (t := 0) (pc := 79) dX0_insert_79 rfl pf_0_57 rfl s0_36 rfl ((gI_ne _ _ _ _ (by decide)).trans ((gI_ne _ _ _ _ (by decide)).trans ((gI_nwn _ _ _ (by decide)).trans (gI_nwn _ _ _ (by decide))))) ?_
          refine fr_iconst (pc := 82) dX0_insert_82 (by decide) ?_
          refine fr_iadd (z := w32 ((gI M 36 15) + 1)) (pc := 83) dX0_insert_83 rfl ?_
          refine fr_put (a := 36) (i := 15) (pc := 84) dX0_insert_84 rfl pf_0_57 rfl s0_36 rfl rfl nf_36_15 rfl ?_
          refine fr_iload_n (pc := 87) dX0_insert_87 rfl rfl ?_
          refine fr_ifc_eq (tg := 96) (pc := 88) dX0_insert_88 rfl hq (fun hc11 hq => ?_) (fun hc11 hq => ?_)
          · refine fr_iload_n (pc := 96) dX0_insert_96 rfl rfl ?_
            refine fr_ifc_lt (tg := 112) (pc := 97) dX0_insert_97 rfl hq (fun hc12 hq => ?_) (fun hc12 hq => ?_)
            · exact fr_vret (pc := 112) dX0_insert_112 rfl hq
            · refine fr_aload_n (pc := 100) dX0_insert_100 rfl rfl ?_
              refine fr_dup (pc := 101) dX0_insert_101 pm_t2 ?_
              refine fr_getf (a := 36) (i := 18) (v := gI M 36 18) (t := 0) (pc := 102) dX0_insert_102 rfl pf_0_67 rfl s0_36 rfl ((gI_nf _ _ (by decide)).trans ((gI_ne _ _ _ _ (by decide)).trans ((gI_ne _ _ _ _ (by decide)).trans ((gI_nwn _ _ _ (by decide)).trans (gI_nwn _ _ _ (by decide)))))) ?_
              refine fr_iconst (pc := 105) dX0_insert_105 (by decide) ?_
              refine fr_iload_n (pc := 106) dX0_insert_106 rfl rfl ?_
              refine fr_ishl (z := pm_ishl 1 a3) (pc := 107) dX0_insert_107 rfl ?_
              refine fr_ior (z := pm_ior (gI M 36 18) (pm_ishl 1 a3)) (pc := 108) dX0_insert_108 rfl ?_
              refine fr_put (a := 36) (i := 18) (pc := 109) dX0_insert_109 rfl pf_0_67 rfl s0_36 rfl rfl nf_36_18 rfl ?_
              exact fr_vret (pc := 112) dX0_insert_112 rfl hq
          · refine fr_iload_n (pc := 91) dX0_insert_91 rfl rfl ?_
            refine fr_iconst (pc := 92) dX0_insert_92 (by decide) ?_
            refine fr_icm_ne (tg := 112) (pc := 93) dX0_insert_93 rfl hq (fun hc13 hq => ?_) (fun hc13 hq => ?_)
            · refine fr_iload_n (pc := 96) dX0_insert_96 rfl rfl ?_
              refine fr_ifc_lt (tg := 112) (pc := 97) dX0_insert_97 rfl hq (fun hc14 hq => ?_) (fun hc14 hq => ?_)
              · exact fr_vret (pc := 112) dX0_insert_112 rfl hq
              · refine fr_aload_n (pc := 100) dX0_insert_100 rfl rfl ?_
                refine fr_dup (pc := 101) dX0_insert_101 pm_t2 ?_
                refine fr_getf (a := 36) (i := 18) (v := gI M 36 18) (t := 0) (pc := 102) dX0_insert_102 rfl pf_0_67 rfl s0_36 rfl ((gI_nf _ _ (by decide)).trans ((gI_ne _ _ _ _ (by decide)).trans ((gI_ne _ _ _ _ (by decide)).trans ((gI_nwn _ _ _ (by decide)).trans (gI_nwn _ _ _ (by decide)))))) ?_
                refine fr_iconst (pc := 105) dX0_insert_105 (by decide) ?_
                refine fr_iload_n (pc := 106) dX0_insert_106 rfl rfl ?_
                refine fr_ishl (z := pm_ishl 1 a3) (pc := 107) dX0_insert_107 rfl ?_
                refine fr_ior (z := pm_ior (gI M 36 18) (pm_ishl 1 a3)) (pc := 108) dX0_insert_108 rfl ?_
                refine fr_put (a := 36) (i := 18) (pc := 109) dX0_insert_109 rfl pf_0_67 rfl s0_36 rfl rfl nf_36_18 rfl ?_
                exact fr_vret (pc := 112) dX0_insert_112 rfl hq
            · exact fr_vret (pc := 112) dX0_insert_112 rfl hq
        · refine fr_aload_n (pc := 77) dX0_insert_77 rfl rfl ?_
          refine fr_dup (pc := 78) dX0_insert_78 pm_t2 ?_
          refine fr_getf (a := 36) (i := 15) (v := gI M 36 15) (t := 0) (pc := 79) dX0_insert_79 rfl pf_0_57 rfl s0_36 rfl rfl ?_
          refine fr_iconst (pc := 82) dX0_insert_82 (by decide) ?_
          refine fr_iadd (z := w32 ((gI M 36 15) + 1)) (pc := 83) dX0_insert_83 rfl ?_
          refine fr_put (a := 36) (i := 15) (pc := 84) dX0_insert_84 rfl pf_0_57 rfl s0_36 rfl rfl nf_36_15 rfl ?_
          refine fr_iload_n (pc := 87) dX0_insert_87 rfl rfl ?_
          refine fr_ifc_eq (tg := 96) (pc := 88) dX0_insert_88 rfl hq (fun hc15 hq => ?_) (fun hc15 hq => ?_)
          · refine fr_iload_n (pc := 96) dX0_insert_96 rfl rfl ?_
            refine fr_ifc_lt (tg := 112) (pc := 97) dX0_insert_97 rfl hq (fun hc16 hq => ?_) (fun hc16 hq => ?_)
            · exact fr_vret (pc := 112) dX0_insert_112 rfl hq
            · refine fr_aload_n (pc := 100) dX0_insert_100 rfl rfl ?_
              refine fr_dup (pc := 101) dX0_insert_101 pm_t2 ?_
              refine fr_getf (a := 36) (i := 18) (v := gI M 36 18) (t := 0) (pc := 102) dX0_insert_102 rfl pf_0_67 rfl s0_36 rfl (gI_nf _ _ (by decide)) ?_
              refine fr_iconst (pc := 105) dX0_insert_105 (by decide) ?_
              refine fr_iload_n (pc := 106) dX0_insert_106 rfl rfl ?_
              refine fr_ishl (z := pm_ishl 1 a3) (pc := 107) dX0_insert_107 rfl ?_
              refine fr_ior (z := pm_ior (gI M 36 18) (pm_ishl 1 a3)) (pc := 108) dX0_insert_108 rfl ?_
              refine fr_put (a := 36) (i := 18) (pc := 109) dX0_insert_109 rfl pf_0_67 rfl s0_36 rfl rfl nf_36_18 rfl ?_
              exact fr_vret (pc := 112) dX0_insert_112 rfl hq
          · refine fr_iload_n (pc := 91) dX0_insert_91 rfl rfl ?_
            refine fr_iconst (pc := 92) dX0_insert_92 (by decide) ?_
            refine fr_icm_ne (tg := 112) (pc := 93) dX0_insert_93 rfl hq (fun hc17 hq => ?_) (fun hc17 hq => ?_)
            · refine fr_iload_n (pc := 96) dX0_insert_96 rfl rfl ?_
              refine fr_ifc_lt (tg := 112) (pc := 97) dX0_insert_97 rfl hq (fun hc18 hq => ?_) (fun hc18 hq => ?_)
              · exact fr_vret (pc := 112) dX0_insert_112 rfl hq
              · refine fr_aload_n (pc := 100) dX0_insert_100 rfl rfl ?_
                refine fr_dup (pc := 101) dX0_insert_101 pm_t2 ?_
                refine fr_getf (a := 36) (i := 18) (v := gI M 36 18) (t := 0) (pc := 102) dX0_insert_102 rfl pf_0_67 rfl s0_36 rfl (gI_nf _ _ (by decide)) ?_
                refine fr_iconst (pc := 105) dX0_insert_105 (by decide) ?_
                refine fr_iload_n (pc := 106) dX0_insert_106 rfl rfl ?_
                refine fr_ishl (z := pm_ishl 1 a3) (pc := 107) dX0_insert_107 rfl ?_
                refine fr_ior (z := pm_ior (gI M 36 18) (pm_ishl 1 a3)) (pc := 108) dX0_insert_108 rfl ?_
                refine fr_put (a := 36) (i := 18) (pc := 109) dX0_insert_109 rfl pf_0_67 rfl s0_36 rfl rfl nf_36_18 rfl ?_
                exact fr_vret (pc := 112) dX0_insert_112 rfl hq
            · exact fr_vret (pc := 112) dX0_insert_112 rfl hq
    · refine fr_aload_n (pc := 77) dX0_insert_77 rfl rfl ?_
      refine fr_dup (pc := 78) dX0_insert_78 pm_t2 ?_
      refine fr_getf (a := 36) (i := 15) (v := gI M 36 15) (t := 0) (pc := 79) dX0_insert_79 rfl pf_0_57 rfl s0_36 rfl rfl ?_
      refine fr_iconst (pc := 82) dX0_insert_82 (by decide) ?_
      refine fr_iadd (z := w32 ((gI M 36 15) + 1)) (pc := 83) dX0_insert_83 rfl ?_
      refine fr_put (a := 36) (i := 15) (pc := 84) dX0_insert_84 rfl pf_0_57 rfl s0_36 rfl rfl nf_36_15 rfl ?_
      refine fr_iload_n (pc := 87) dX0_insert_87 rfl rfl ?_
      refine fr_ifc_eq (tg := 96) (pc := 88) dX0_insert_88 rfl hq (fun hc19 hq => ?_) (fun hc19 hq => ?_)
      · refine fr_iload_n (pc := 96) dX0_insert_96 rfl rfl ?_
        refine fr_ifc_lt (tg := 112) (pc := 97) dX0_insert_97 rfl hq (fun hc20 hq => ?_) (fun hc20 hq => ?_)
        · exact fr_vret (pc := 112) dX0_insert_112 rfl hq
        · refine fr_aload_n (pc := 100) dX0_insert_100 rfl rfl ?_
          refine fr_dup (pc := 101) dX0_insert_101 pm_t2 ?_
          refine fr_getf (a := 36) (i := 18) (v := gI M 36 18) (t := 0) (pc := 102) dX0_insert_102 rfl pf_0_67 rfl s0_36 rfl (gI_nf _ _ (by decide)) ?_
          refine fr_iconst (pc := 105) dX0_insert_105 (by decide) ?_
          refine fr_iload_n (pc := 106) dX0_insert_106 rfl rfl ?_
          refine fr_ishl (z := pm_ishl 1 a3) (pc := 107) dX0_insert_107 rfl ?_
          refine fr_ior (z := pm_ior (gI M 36 18) (pm_ishl 1 a3)) (pc := 108) dX0_insert_108 rfl ?_
          refine fr_put (a := 36) (i := 18) (pc := 109) dX0_insert_109 rfl pf_0_67 rfl s0_36 rfl rfl nf_36_18 rfl ?_
          exact fr_vret (pc := 112) dX0_insert_112 rfl hq
      · refine fr_iload_n (pc := 91) dX0_insert_91 rfl rfl ?_
        refine fr_iconst (pc := 92) dX0_insert_92 (by decide) ?_
        refine fr_icm_ne (tg := 112) (pc := 93) dX0_insert_93 rfl hq (fun hc21 hq => ?_) (fun hc21 hq => ?_)
        · refine fr_iload_n (pc := 96) dX0_insert_96 rfl rfl ?_
          refine fr_ifc_lt (tg := 112) (pc := 97) dX0_insert_97 rfl hq (fun hc22 hq => ?_) (fun hc22 hq => ?_)
          · exact fr_vret (pc := 112) dX0_insert_112 rfl hq
          · refine fr_aload_n (pc := 100) dX0_insert_100 rfl rfl ?_
            refine fr_dup (pc := 101) dX0_insert_101 pm_t2 ?_
            refine fr_getf (a := 36) (i := 18) (v := gI M 36 18) (t := 0) (pc := 102) dX0_insert_102 rfl pf_0_67 rfl s0_36 rfl (gI_nf _ _ (by decide)) ?_
            refine fr_iconst (pc := 105) dX0_insert_105 (by decide) ?_
            refine fr_iload_n (pc := 106) dX0_insert_106 rfl rfl ?_
            refine fr_ishl (z := pm_ishl 1 a3) (pc := 107) dX0_insert_107 rfl ?_
            refine fr_ior (z := pm_ior (gI M 36 18) (pm_ishl 1 a3)) (pc := 108) dX0_insert_108 rfl ?_
            refine fr_put (a := 36) (i := 18) (pc := 109) dX0_insert_109 rfl pf_0_67 rfl s0_36 rfl rfl nf_36_18 rfl ?_
            exact fr_vret (pc := 112) dX0_insert_112 rfl hq
        · exact fr_vret (pc := 112) dX0_insert_112 rfl hq
theorem k7_expectMark_r {a1 : Int} {M : pm_M} {K : pm_M → Prop} (hq : (if gI M 70 4 = 5 then (if gI M 70 5 = a1 then k7_advance M (fun M3 => K M3) else (if gI M 70 6 = 0 then k7_advance (upI (upI M 70 6 (w32 ((w32 (8 * (gI M 70 3))) + 1))) 70 4 1) (fun M6 => K M6) else k7_advance M (fun M8 => K M8))) else (if gI M 70 6 = 0 then k7_advance (upI (upI M 70 6 (w32 ((w32 (8 * (gI M 70 3))) + 1))) 70 4 1) (fun M11 => K M11) else k7_advance M (fun M13 => K M13)))) : k7_expectMark a1 M K := by
  intro sc d hd
  refine fr_aload_n (pc := 0) dX7_expectMark_0 rfl rfl ?_
  refine fr_iload_n (pc := 1) dX7_expectMark_1 rfl rfl ?_
  refine fr_inVI (a := 70) (as := [(0, a1)]) (rest := []) (ls' := [(2, 70), (0, a1)]) (c1 := 0) (c2 := 0) (pc := 2) dX7_expectMark_2 pl_7_88 rfl ⟨Nat.le_of_ble_eq_true rfl, Nat.le_of_ble_eq_true rfl⟩ rfl rfl rfl s0_70 (Nat.le_of_ble_eq_true rfl) (by omega) rfl rfl (pm_zc _) ?_ (fun y M' h => h)
  refine fr_aload_n (pc := 0) dX7_isMark_0 rfl rfl ?_
  refine fr_getf (a := 70) (i := 4) (v := gI M 70 4) (t := 0) (pc := 1) dX7_isMark_1 rfl pf_7_40 rfl s0_70 rfl rfl ?_
  refine fr_iconst (pc := 4) dX7_isMark_4 (by decide) ?_
  refine fr_icm_ne (tg := 20) (pc := 5) dX7_isMark_5 rfl hq (fun hc1 hq => ?_) (fun hc1 hq => ?_)
  · refine fr_aload_n (pc := 8) dX7_isMark_8 rfl rfl ?_
    refine fr_getf (a := 70) (i := 5) (v := gI M 70 5) (t := 0) (pc := 9) dX7_isMark_9 rfl pf_7_43 rfl s0_70 rfl rfl ?_
    refine fr_iload_n (pc := 12) dX7_isMark_12 rfl rfl ?_
    refine fr_icm_ne (tg := 20) (pc := 13) dX7_isMark_13 rfl hq (fun hc2 hq => ?_) (fun hc2 hq => ?_)
    · refine fr_iconst (pc := 16) dX7_isMark_16 (by decide) ?_
      refine fr_goto (tg := 21) (pc := 17) dX7_isMark_17 rfl ?_
      refine fr_iret (pc := 21) dX7_isMark_21 (Or.inr (Or.inl ⟨rfl, Or.inr rfl⟩)) ?_
      refine fr_ifcT (tg := 13) (pc := 5) dX7_expectMark_5 rfl rfl ?_
      refine fr_aload_n (pc := 13) dX7_expectMark_13 rfl rfl ?_
      refine fr_inVV (a := 70) (as := []) (rest := []) (ls' := [(2, 70), (9, 0)]) (c1 := 0) (c2 := 0) (pc := 14) dX7_expectMark_14 pl_7_34 rfl ⟨Nat.le_of_ble_eq_true rfl, Nat.le_of_ble_eq_true rfl⟩ rfl rfl rfl s0_70 (Nat.le_of_ble_eq_true rfl) (by omega) rfl rfl (pm_zc _) (hq sc _ (by omega)) (fun M3 hq => ?_)
      exact fr_vret (pc := 17) dX7_expectMark_17 rfl hq
    · refine fr_iconst (pc := 20) dX7_isMark_20 (by decide) ?_
      refine fr_iret (pc := 21) dX7_isMark_21 (Or.inr (Or.inl ⟨rfl, Or.inl rfl⟩)) ?_
      refine fr_ifcF (tg := 13) (pc := 5) dX7_expectMark_5 rfl rfl ?_
      refine fr_aload_n (pc := 8) dX7_expectMark_8 rfl rfl ?_
      refine fr_iconst (pc := 9) dX7_expectMark_9 (by decide) ?_
      refine fr_inVV (a := 70) (as := [(0, 1)]) (rest := []) (ls' := [(2, 70), (0, 1)]) (c1 := 0) (c2 := 0) (pc := 10) dX7_expectMark_10 pl_7_66 rfl ⟨Nat.le_of_ble_eq_true rfl, Nat.le_of_ble_eq_true rfl⟩ rfl rfl rfl s0_70 (Nat.le_of_ble_eq_true rfl) (by omega) rfl rfl (pm_zc _) ?_ (fun M' h => h)
      refine fr_aload_n (pc := 0) dX7_refuse_0 rfl rfl ?_
      refine fr_getf (a := 70) (i := 6) (v := gI M 70 6) (t := 0) (pc := 1) dX7_refuse_1 rfl pf_7_31 rfl s0_70 rfl rfl ?_
      refine fr_ifc_ne (tg := 25) (pc := 4) dX7_refuse_4 rfl hq (fun hc5 hq => ?_) (fun hc5 hq => ?_)
      · refine fr_aload_n (pc := 7) dX7_refuse_7 rfl rfl ?_
        refine fr_bipush (pc := 8) dX7_refuse_8 (by decide) ?_
        refine fr_aload_n (pc := 10) dX7_refuse_10 rfl rfl ?_
        refine fr_getf (a := 70) (i := 3) (v := gI M 70 3) (t := 0) (pc := 11) dX7_refuse_11 rfl pf_7_37 rfl s0_70 rfl rfl ?_
        refine fr_imul (z := w32 (8 * (gI M 70 3))) (pc := 14) dX7_refuse_14 rfl ?_
        refine fr_iload_n (pc := 15) dX7_refuse_15 rfl rfl ?_
        refine fr_iadd (z := w32 ((w32 (8 * (gI M 70 3))) + 1)) (pc := 16) dX7_refuse_16 rfl ?_
        refine fr_put (a := 70) (i := 6) (pc := 17) dX7_refuse_17 rfl pf_7_31 rfl s0_70 rfl rfl nf_70_6 rfl ?_
        refine fr_aload_n (pc := 20) dX7_refuse_20 rfl rfl ?_
        refine fr_iconst (pc := 21) dX7_refuse_21 (by decide) ?_
        refine fr_put (a := 70) (i := 4) (pc := 22) dX7_refuse_22 rfl pf_7_40 rfl s0_70 rfl rfl nf_70_4 rfl ?_
        refine fr_vret (pc := 25) dX7_refuse_25 rfl ?_
        refine fr_aload_n (pc := 13) dX7_expectMark_13 rfl rfl ?_
        refine fr_inVV (a := 70) (as := []) (rest := []) (ls' := [(2, 70), (9, 0)]) (c1 := 0) (c2 := 0) (pc := 14) dX7_expectMark_14 pl_7_34 rfl ⟨Nat.le_of_ble_eq_true rfl, Nat.le_of_ble_eq_true rfl⟩ rfl rfl rfl s0_70 (Nat.le_of_ble_eq_true rfl) (by omega) rfl rfl (pm_zc _) (hq sc _ (by omega)) (fun M6 hq => ?_)
        exact fr_vret (pc := 17) dX7_expectMark_17 rfl hq
      · refine fr_vret (pc := 25) dX7_refuse_25 rfl ?_
        refine fr_aload_n (pc := 13) dX7_expectMark_13 rfl rfl ?_
        refine fr_inVV (a := 70) (as := []) (rest := []) (ls' := [(2, 70), (9, 0)]) (c1 := 0) (c2 := 0) (pc := 14) dX7_expectMark_14 pl_7_34 rfl ⟨Nat.le_of_ble_eq_true rfl, Nat.le_of_ble_eq_true rfl⟩ rfl rfl rfl s0_70 (Nat.le_of_ble_eq_true rfl) (by omega) rfl rfl (pm_zc _) (hq sc _ (by omega)) (fun M8 hq => ?_)
        exact fr_vret (pc := 17) dX7_expectMark_17 rfl hq
  · refine fr_iconst (pc := 20) dX7_isMark_20 (by decide) ?_
    refine fr_iret (pc := 21) dX7_isMark_21 (Or.inr (Or.inl ⟨rfl, Or.inl rfl⟩)) ?_
    refine fr_ifcF (tg := 13) (pc := 5) dX7_expectMark_5 rfl rfl ?_
    refine fr_aload_n (pc := 8) dX7_expectMark_8 rfl rfl ?_
    refine fr_iconst (pc := 9) dX7_expectMark_9 (by decide) ?_
    refine fr_inVV (a := 70) (as := [(0, 1)]) (rest := []) (ls' := [(2, 70), (0, 1)]) (c1 := 0) (c2 := 0) (pc := 10) dX7_expectMark_10 pl_7_66 rfl ⟨Nat.le_of_ble_eq_true rfl, Nat.le_of_ble_eq_true rfl⟩ rfl rfl rfl s0_70 (Nat.le_of_ble_eq_true rfl) (by omega) rfl rfl (pm_zc _) ?_ (fun M' h => h)
    refine fr_aload_n (pc := 0) dX7_refuse_0 rfl rfl ?_
    refine fr_getf (a := 70) (i := 6) (v := gI M 70 6) (t := 0) (pc := 1) dX7_refuse_1 rfl pf_7_31 rfl s0_70 rfl rfl ?_
    refine fr_ifc_ne (tg := 25) (pc := 4) dX7_refuse_4 rfl hq (fun hc10 hq => ?_) (fun hc10 hq => ?_)
    · refine fr_aload_n (pc := 7) dX7_refuse_7 rfl rfl ?_
      refine fr_bipush (pc := 8) dX7_refuse_8 (by decide) ?_
      refine fr_aload_n (pc := 10) dX7_refuse_10 rfl rfl ?_
      refine fr_getf (a := 70) (i := 3) (v := gI M 70 3) (t := 0) (pc := 11) dX7_refuse_11 rfl pf_7_37 rfl s0_70 rfl rfl ?_
      refine fr_imul (z := w32 (8 * (gI M 70 3))) (pc := 14) dX7_refuse_14 rfl ?_
      refine fr_iload_n (pc := 15) dX7_refuse_15 rfl rfl ?_
      refine fr_iadd (z := w32 ((w32 (8 * (gI M 70 3))) + 1)) (pc := 16) dX7_refuse_16 rfl ?_
      refine fr_put (a := 70) (i := 6) (pc := 17) dX7_refuse_17 rfl pf_7_31 rfl s0_70 rfl rfl nf_70_6 rfl ?_
      refine fr_aload_n (pc := 20) dX7_refuse_20 rfl rfl ?_
      refine fr_iconst (pc := 21) dX7_refuse_21 (by decide) ?_
      refine fr_put (a := 70) (i := 4) (pc := 22) dX7_refuse_22 rfl pf_7_40 rfl s0_70 rfl rfl nf_70_4 rfl ?_
      refine fr_vret (pc := 25) dX7_refuse_25 rfl ?_
      refine fr_aload_n (pc := 13) dX7_expectMark_13 rfl rfl ?_
      refine fr_inVV (a := 70) (as := []) (rest := []) (ls' := [(2, 70), (9, 0)]) (c1 := 0) (c2 := 0) (pc := 14) dX7_expectMark_14 pl_7_34 rfl ⟨Nat.le_of_ble_eq_true rfl, Nat.le_of_ble_eq_true rfl⟩ rfl rfl rfl s0_70 (Nat.le_of_ble_eq_true rfl) (by omega) rfl rfl (pm_zc _) (hq sc _ (by omega)) (fun M11 hq => ?_)
      exact fr_vret (pc := 17) dX7_expectMark_17 rfl hq
    · refine fr_vret (pc := 25) dX7_refuse_25 rfl ?_
      refine fr_aload_n (pc := 13) dX7_expectMark_13 rfl rfl ?_
      refine fr_inVV (a := 70) (as := []) (rest := []) (ls' := [(2, 70), (9, 0)]) (c1 := 0) (c2 := 0) (pc := 14) dX7_expectMark_14 pl_7_34 rfl ⟨Nat.le_of_ble_eq_true rfl, Nat.le_of_ble_eq_true rfl⟩ rfl rfl rfl s0_70 (Nat.le_of_ble_eq_true rfl) (by omega) rfl rfl (pm_zc _) (hq sc _ (by omega)) (fun M13 hq => ?_)
      exact fr_vret (pc := 17) dX7_expectMark_17 rfl hq
theorem k4_readSides_r {h : Nat} {o : Nat} {a1 a2 : Int} {M : pm_M} {K : pm_M → Prop} (ho : o = 2 ∨ o = 36) (hh : 26 ≤ h) (hq : (if a1 ≤ 2 then (gI M 71 1 = (o : Int) ∧ k4_readSides (h - 1) o (w32 (a1 + 1)) a2 M (fun M3 => (if a1 = 0 then k4_readSides_43 h o a1 a2 (gI M o 15) 1 0 M3 K else k4_readSides_43 h o a1 a2 (gI M o 15) 600 0 M3 K))) else k4_readPart (h - 1) o a2 M (fun M6 => K M6))) : k4_readSides h o a1 a2 M K := by
  intro sc d hd
  rcases ho with rfl | rfl
  · refine fr_iload_n (pc := 0) dX4_readSides_0 rfl rfl ?_
    refine fr_iconst (pc := 1) dX4_readSides_1 (by decide) ?_
    refine fr_icm_le (tg := 11) (pc := 2) dX4_readSides_2 rfl hq (fun hc1 hq => ?_) (fun hc1 hq => ?_)
    · refine fr_aload_n (pc := 11) dX4_readSides_11 rfl rfl ?_
      obtain ⟨ho2, hq⟩ := hq
      refine fr_getf (a := 71) (i := 1) (v := 2) (t := 2) (pc := 12) dX4_readSides_12 rfl pf_4_15 rfl s0_71 rfl ho2 ?_
      refine fr_getf (a := 2) (i := 15) (v := gI M 2 15) (t := 0) (pc := 15) dX4_readSides_15 rfl pf_4_41 rfl s0_2 rfl rfl ?_
      refine fr_istore_n (ls2 := [(2, 71), (0, a1), (0, a2), (0, gI M 2 15), (9, 0), (9, 0)]) (pc := 18) dX4_readSides_18 rfl (Nat.le_of_ble_eq_true rfl) rfl ?_
      refine fr_aload_n (pc := 19) dX4_readSides_19 rfl rfl ?_
      refine fr_iload_n (pc := 20) dX4_readSides_20 rfl rfl ?_
      refine fr_iconst (pc := 21) dX4_readSides_21 (by decide) ?_
      refine fr_iadd (z := w32 (a1 + 1)) (pc := 22) dX4_readSides_22 rfl ?_
      refine fr_iload_n (pc := 23) dX4_readSides_23 rfl rfl ?_
      refine fr_inVV (a := 71) (as := [(0, w32 (a1 + 1)), (0, a2)]) (rest := []) (ls' := [(2, 71), (0, w32 (a1 + 1)), (0, a2), (9, 0), (9, 0), (9, 0)]) (c1 := 0) (c2 := 0) (pc := 24) dX4_readSides_24 pl_4_71 rfl ⟨Nat.le_of_ble_eq_true rfl, Nat.le_of_ble_eq_true rfl⟩ rfl rfl rfl s0_71 (Nat.le_of_ble_eq_true rfl) (by omega) rfl rfl (pm_zc _) (hq sc _ (by omega)) (fun M3 hq => ?_)
      refine fr_iload_n (pc := 27) dX4_readSides_27 rfl rfl ?_
      refine fr_ifc_ne (tg := 35) (pc := 28) dX4_readSides_28 rfl hq (fun hc5 hq => ?_) (fun hc5 hq => ?_)
      · refine fr_iconst (pc := 31) dX4_readSides_31 (by decide) ?_
        refine fr_goto (tg := 38) (pc := 32) dX4_readSides_32 rfl ?_
        refine fr_istore (ls2 := [(2, 71), (0, a1), (0, a2), (0, gI M 2 15), (0, 1), (9, 0)]) (pc := 38) dX4_readSides_38 rfl (Nat.le_of_ble_eq_true rfl) rfl ?_
        refine fr_iconst (pc := 40) dX4_readSides_40 (by decide) ?_
        refine fr_istore (ls2 := [(2, 71), (0, a1), (0, a2), (0, gI M 2 15), (0, 1), (0, 0)]) (pc := 41) dX4_readSides_41 rfl (Nat.le_of_ble_eq_true rfl) rfl ?_
        exact hq sc d hd
      · refine fr_sipush (pc := 35) dX4_readSides_35 (by decide) ?_
        refine fr_istore (ls2 := [(2, 71), (0, a1), (0, a2), (0, gI M 2 15), (0, 600), (9, 0)]) (pc := 38) dX4_readSides_38 rfl (Nat.le_of_ble_eq_true rfl) rfl ?_
        refine fr_iconst (pc := 40) dX4_readSides_40 (by decide) ?_
        refine fr_istore (ls2 := [(2, 71), (0, a1), (0, a2), (0, gI M 2 15), (0, 600), (0, 0)]) (pc := 41) dX4_readSides_41 rfl (Nat.le_of_ble_eq_true rfl) rfl ?_
        exact hq sc d hd
    · refine fr_aload_n (pc := 5) dX4_readSides_5 rfl rfl ?_
      refine fr_iload_n (pc := 6) dX4_readSides_6 rfl rfl ?_
      refine fr_inVV (a := 71) (as := [(0, a2)]) (rest := []) (ls' := [(2, 71), (0, a2), (9, 0), (9, 0), (9, 0)]) (c1 := 0) (c2 := 0) (pc := 7) dX4_readSides_7 pl_4_94 rfl ⟨Nat.le_of_ble_eq_true rfl, Nat.le_of_ble_eq_true rfl⟩ rfl rfl rfl s0_71 (Nat.le_of_ble_eq_true rfl) (by omega) rfl rfl (pm_zc _) (hq sc _ (by omega)) (fun M6 hq => ?_)
      exact fr_vret (pc := 10) dX4_readSides_10 rfl hq
  · refine fr_iload_n (pc := 0) dX4_readSides_0 rfl rfl ?_
    refine fr_iconst (pc := 1) dX4_readSides_1 (by decide) ?_
    refine fr_icm_le (tg := 11) (pc := 2) dX4_readSides_2 rfl hq (fun hc1 hq => ?_) (fun hc1 hq => ?_)
    · refine fr_aload_n (pc := 11) dX4_readSides_11 rfl rfl ?_
      obtain ⟨ho2, hq⟩ := hq
      refine fr_getf (a := 71) (i := 1) (v := 36) (t := 2) (pc := 12) dX4_readSides_12 rfl pf_4_15 rfl s0_71 rfl ho2 ?_
      refine fr_getf (a := 36) (i := 15) (v := gI M 36 15) (t := 0) (pc := 15) dX4_readSides_15 rfl pf_4_41 rfl s0_36 rfl rfl ?_
      refine fr_istore_n (ls2 := [(2, 71), (0, a1), (0, a2), (0, gI M 36 15), (9, 0), (9, 0)]) (pc := 18) dX4_readSides_18 rfl (Nat.le_of_ble_eq_true rfl) rfl ?_
      refine fr_aload_n (pc := 19) dX4_readSides_19 rfl rfl ?_
      refine fr_iload_n (pc := 20) dX4_readSides_20 rfl rfl ?_
      refine fr_iconst (pc := 21) dX4_readSides_21 (by decide) ?_
      refine fr_iadd (z := w32 (a1 + 1)) (pc := 22) dX4_readSides_22 rfl ?_
      refine fr_iload_n (pc := 23) dX4_readSides_23 rfl rfl ?_
      refine fr_inVV (a := 71) (as := [(0, w32 (a1 + 1)), (0, a2)]) (rest := []) (ls' := [(2, 71), (0, w32 (a1 + 1)), (0, a2), (9, 0), (9, 0), (9, 0)]) (c1 := 0) (c2 := 0) (pc := 24) dX4_readSides_24 pl_4_71 rfl ⟨Nat.le_of_ble_eq_true rfl, Nat.le_of_ble_eq_true rfl⟩ rfl rfl rfl s0_71 (Nat.le_of_ble_eq_true rfl) (by omega) rfl rfl (pm_zc _) (hq sc _ (by omega)) (fun M3 hq => ?_)
      refine fr_iload_n (pc := 27) dX4_readSides_27 rfl rfl ?_
      refine fr_ifc_ne (tg := 35) (pc := 28) dX4_readSides_28 rfl hq (fun hc5 hq => ?_) (fun hc5 hq => ?_)
      · refine fr_iconst (pc := 31) dX4_readSides_31 (by decide) ?_
        refine fr_goto (tg := 38) (pc := 32) dX4_readSides_32 rfl ?_
        refine fr_istore (ls2 := [(2, 71), (0, a1), (0, a2), (0, gI M 36 15), (0, 1), (9, 0)]) (pc := 38) dX4_readSides_38 rfl (Nat.le_of_ble_eq_true rfl) rfl ?_
        refine fr_iconst (pc := 40) dX4_readSides_40 (by decide) ?_
        refine fr_istore (ls2 := [(2, 71), (0, a1), (0, a2), (0, gI M 36 15), (0, 1), (0, 0)]) (pc := 41) dX4_readSides_41 rfl (Nat.le_of_ble_eq_true rfl) rfl ?_
        exact hq sc d hd
      · refine fr_sipush (pc := 35) dX4_readSides_35 (by decide) ?_
        refine fr_istore (ls2 := [(2, 71), (0, a1), (0, a2), (0, gI M 36 15), (0, 600), (9, 0)]) (pc := 38) dX4_readSides_38 rfl (Nat.le_of_ble_eq_true rfl) rfl ?_
        refine fr_iconst (pc := 40) dX4_readSides_40 (by decide) ?_
        refine fr_istore (ls2 := [(2, 71), (0, a1), (0, a2), (0, gI M 36 15), (0, 600), (0, 0)]) (pc := 41) dX4_readSides_41 rfl (Nat.le_of_ble_eq_true rfl) rfl ?_
        exact hq sc d hd
    · refine fr_aload_n (pc := 5) dX4_readSides_5 rfl rfl ?_
      refine fr_iload_n (pc := 6) dX4_readSides_6 rfl rfl ?_
      refine fr_inVV (a := 71) (as := [(0, a2)]) (rest := []) (ls' := [(2, 71), (0, a2), (9, 0), (9, 0), (9, 0)]) (c1 := 0) (c2 := 0) (pc := 7) dX4_readSides_7 pl_4_94 rfl ⟨Nat.le_of_ble_eq_true rfl, Nat.le_of_ble_eq_true rfl⟩ rfl rfl rfl s0_71 (Nat.le_of_ble_eq_true rfl) (by omega) rfl rfl (pm_zc _) (hq sc _ (by omega)) (fun M6 hq => ?_)
      exact fr_vret (pc := 10) dX4_readSides_10 rfl hq
theorem k4_readSides_43_r {h : Nat} {o : Nat} {l1 l2 l3 l4 l5 : Int} {M : pm_M} {K : pm_M → Prop} (ho : o = 2 ∨ o = 36) (hh : 26 ≤ h) (hq : (if l5 < l4 then (if gI M 70 4 = 4 then (if gI M 70 5 < 5 then (if gI M 70 5 < 2 then (if 1 = l1 then (gI M 71 1 = (o : Int) ∧ k0_insert o l3 7 (gI M 70 5) M (fun M7 => k7_advance M7 (fun M9 => k4_readSides (h - 1) o (w32 (l1 + 1)) l2 M9 (fun M11 => k4_readSides_43 h o l1 l2 l3 l4 (w32 (l5 + 1)) M11 K)))) else K M) else (if 2 = l1 then (gI M 71 1 = (o : Int) ∧ k0_insert o l3 7 (gI M 70 5) M (fun M15 => k7_advance M15 (fun M17 => k4_readSides (h - 1) o (w32 (l1 + 1)) l2 M17 (fun M19 => k4_readSides_43 h o l1 l2 l3 l4 (w32 (l5 + 1)) M19 K)))) else K M)) else (if 0 = l1 then (gI M 71 1 = (o : Int) ∧ k0_insert o l3 7 (gI M 70 5) M (fun M23 => k7_advance M23 (fun M25 => k4_readSides (h - 1) o (w32 (l1 + 1)) l2 M25 (fun M27 => k4_readSides_43 h o l1 l2 l3 l4 (w32 (l5 + 1)) M27 K)))) else K M)) else K M) else K M)) : k4_readSides_43 h o l1 l2 l3 l4 l5 M K := by
  intro sc d hd
  rcases ho with rfl | rfl
  · refine fr_iload (pc := 43) dX4_readSides_43 rfl rfl ?_
    refine fr_iload (pc := 45) dX4_readSides_45 rfl rfl ?_
    refine fr_icm_ge (tg := 113) (pc := 47) dX4_readSides_47 rfl hq (fun hc1 hq => ?_) (fun hc1 hq => ?_)
    · refine fr_aload_n (pc := 50) dX4_readSides_50 rfl rfl ?_
      refine fr_getr (a := 71) (pc := 51) dX4_readSides_51 rfl pf_4_9 s0_71 rfl rf_71_0 ?_
      refine fr_getf (a := 70) (i := 4) (v := gI M 70 4) (t := 0) (pc := 54) dX4_readSides_54 rfl pf_4_38 rfl s0_70 rfl rfl ?_
      refine fr_iconst (pc := 57) dX4_readSides_57 (by decide) ?_
      refine fr_icm_ne (tg := 113) (pc := 58) dX4_readSides_58 rfl hq (fun hc2 hq => ?_) (fun hc2 hq => ?_)
      · refine fr_aload_n (pc := 61) dX4_readSides_61 rfl rfl ?_
        refine fr_getr (a := 71) (pc := 62) dX4_readSides_62 rfl pf_4_9 s0_71 rfl rf_71_0 ?_
        refine fr_getf (a := 70) (i := 5) (v := gI M 70 5) (t := 0) (pc := 65) dX4_readSides_65 rfl pf_4_97 rfl s0_70 rfl rfl ?_
        refine fr_inSI (as := [(0, gI M 70 5)]) (rest := []) (ls' := [(0, gI M 70 5)]) (c1 := 0) (c2 := 0) (pc := 68) dX4_readSides_68 pl_4_100 rfl ⟨Nat.le_of_ble_eq_true rfl, Nat.le_of_ble_eq_true rfl⟩ rfl rfl  (by omega) rfl rfl (pm_zc _) ?_ (fun y M' h => h)
        refine fr_iload_n (pc := 0) dX4_levelOf_0 rfl rfl ?_
        refine fr_iconst (pc := 1) dX4_levelOf_1 (by decide) ?_
        refine fr_icm_lt (tg := 7) (pc := 2) dX4_levelOf_2 rfl hq (fun hc3 hq => ?_) (fun hc3 hq => ?_)
        · refine fr_iload_n (pc := 7) dX4_levelOf_7 rfl rfl ?_
          refine fr_iconst (pc := 8) dX4_levelOf_8 (by decide) ?_
          refine fr_icm_lt (tg := 16) (pc := 9) dX4_levelOf_9 rfl hq (fun hc4 hq => ?_) (fun hc4 hq => ?_)
          · refine fr_iconst (pc := 16) dX4_levelOf_16 (by decide) ?_
            refine fr_iret (pc := 17) dX4_levelOf_17 (Or.inl rfl) ?_
            refine fr_iload_n (pc := 71) dX4_readSides_71 rfl rfl ?_
            refine fr_icm_ne (tg := 113) (pc := 72) dX4_readSides_72 rfl hq (fun hc5 hq => ?_) (fun hc5 hq => ?_)
            · refine fr_aload_n (pc := 75) dX4_readSides_75 rfl rfl ?_
              obtain ⟨ho6, hq⟩ := hq
              refine fr_getf (a := 71) (i := 1) (v := 2) (t := 2) (pc := 76) dX4_readSides_76 rfl pf_4_15 rfl s0_71 rfl ho6 ?_
              refine fr_iload_n (pc := 79) dX4_readSides_79 rfl rfl ?_
              refine fr_bipush (pc := 80) dX4_readSides_80 (by decide) ?_
              refine fr_aload_n (pc := 82) dX4_readSides_82 rfl rfl ?_
              refine fr_getr (a := 71) (pc := 83) dX4_readSides_83 rfl pf_4_9 s0_71 rfl rf_71_0 ?_
              refine fr_getf (a := 70) (i := 5) (v := gI M 70 5) (t := 0) (pc := 86) dX4_readSides_86 rfl pf_4_97 rfl s0_70 rfl rfl ?_
              refine fr_inVV (a := 2) (as := [(0, l3), (0, 7), (0, gI M 70 5)]) (rest := []) (ls' := [(2, 2), (0, l3), (0, 7), (0, gI M 70 5)]) (c1 := 0) (c2 := 0) (pc := 89) dX4_readSides_89 pl_4_104 rfl ⟨Nat.le_of_ble_eq_true rfl, Nat.le_of_ble_eq_true rfl⟩ rfl rfl rfl s0_2 (Nat.le_of_ble_eq_true rfl) (by omega) rfl rfl (pm_zc _) (hq sc _ (by omega)) (fun M7 hq => ?_)
              refine fr_aload_n (pc := 92) dX4_readSides_92 rfl rfl ?_
              refine fr_getr (a := 71) (pc := 93) dX4_readSides_93 rfl pf_4_9 s0_71 rfl rf_71_0 ?_
              refine fr_inVV (a := 70) (as := []) (rest := []) (ls' := [(2, 70), (9, 0)]) (c1 := 0) (c2 := 0) (pc := 96) dX4_readSides_96 pl_4_64 rfl ⟨Nat.le_of_ble_eq_true rfl, Nat.le_of_ble_eq_true rfl⟩ rfl rfl rfl s0_70 (Nat.le_of_ble_eq_true rfl) (by omega) rfl rfl (pm_zc _) (hq sc _ (by omega)) (fun M9 hq => ?_)
              refine fr_aload_n (pc := 99) dX4_readSides_99 rfl rfl ?_
              refine fr_iload_n (pc := 100) dX4_readSides_100 rfl rfl ?_
              refine fr_iconst (pc := 101) dX4_readSides_101 (by decide) ?_
              refine fr_iadd (z := w32 (l1 + 1)) (pc := 102) dX4_readSides_102 rfl ?_
              refine fr_iload_n (pc := 103) dX4_readSides_103 rfl rfl ?_
              refine fr_inVV (a := 71) (as := [(0, w32 (l1 + 1)), (0, l2)]) (rest := []) (ls' := [(2, 71), (0, w32 (l1 + 1)), (0, l2), (9, 0), (9, 0), (9, 0)]) (c1 := 0) (c2 := 0) (pc := 104) dX4_readSides_104 pl_4_71 rfl ⟨Nat.le_of_ble_eq_true rfl, Nat.le_of_ble_eq_true rfl⟩ rfl rfl rfl s0_71 (Nat.le_of_ble_eq_true rfl) (by omega) rfl rfl (pm_zc _) (hq sc _ (by omega)) (fun M11 hq => ?_)
              refine fr_iinc (z := w32 (l5 + 1)) (ls2 := [(2, 71), (0, l1), (0, l2), (0, l3), (0, l4), (0, w32 (l5 + 1))]) (pc := 107) dX4_readSides_107 (Nat.le_of_ble_eq_true rfl) rfl rfl rfl ?_
              refine fr_goto (tg := 43) (pc := 110) dX4_readSides_110 rfl ?_
              exact hq sc d hd
            · exact fr_vret (pc := 113) dX4_readSides_113 rfl hq
          · refine fr_iconst (pc := 12) dX4_levelOf_12 (by decide) ?_
            refine fr_goto (tg := 17) (pc := 13) dX4_levelOf_13 rfl ?_
            refine fr_iret (pc := 17) dX4_levelOf_17 (Or.inl rfl) ?_
            refine fr_iload_n (pc := 71) dX4_readSides_71 rfl rfl ?_
            refine fr_icm_ne (tg := 113) (pc := 72) dX4_readSides_72 rfl hq (fun hc13 hq => ?_) (fun hc13 hq => ?_)
            · refine fr_aload_n (pc := 75) dX4_readSides_75 rfl rfl ?_
              obtain ⟨ho14, hq⟩ := hq
              refine fr_getf (a := 71) (i := 1) (v := 2) (t := 2) (pc := 76) dX4_readSides_76 rfl pf_4_15 rfl s0_71 rfl ho14 ?_
              refine fr_iload_n (pc := 79) dX4_readSides_79 rfl rfl ?_
              refine fr_bipush (pc := 80) dX4_readSides_80 (by decide) ?_
              refine fr_aload_n (pc := 82) dX4_readSides_82 rfl rfl ?_
              refine fr_getr (a := 71) (pc := 83) dX4_readSides_83 rfl pf_4_9 s0_71 rfl rf_71_0 ?_
              refine fr_getf (a := 70) (i := 5) (v := gI M 70 5) (t := 0) (pc := 86) dX4_readSides_86 rfl pf_4_97 rfl s0_70 rfl rfl ?_
              refine fr_inVV (a := 2) (as := [(0, l3), (0, 7), (0, gI M 70 5)]) (rest := []) (ls' := [(2, 2), (0, l3), (0, 7), (0, gI M 70 5)]) (c1 := 0) (c2 := 0) (pc := 89) dX4_readSides_89 pl_4_104 rfl ⟨Nat.le_of_ble_eq_true rfl, Nat.le_of_ble_eq_true rfl⟩ rfl rfl rfl s0_2 (Nat.le_of_ble_eq_true rfl) (by omega) rfl rfl (pm_zc _) (hq sc _ (by omega)) (fun M15 hq => ?_)
              refine fr_aload_n (pc := 92) dX4_readSides_92 rfl rfl ?_
              refine fr_getr (a := 71) (pc := 93) dX4_readSides_93 rfl pf_4_9 s0_71 rfl rf_71_0 ?_
              refine fr_inVV (a := 70) (as := []) (rest := []) (ls' := [(2, 70), (9, 0)]) (c1 := 0) (c2 := 0) (pc := 96) dX4_readSides_96 pl_4_64 rfl ⟨Nat.le_of_ble_eq_true rfl, Nat.le_of_ble_eq_true rfl⟩ rfl rfl rfl s0_70 (Nat.le_of_ble_eq_true rfl) (by omega) rfl rfl (pm_zc _) (hq sc _ (by omega)) (fun M17 hq => ?_)
              refine fr_aload_n (pc := 99) dX4_readSides_99 rfl rfl ?_
              refine fr_iload_n (pc := 100) dX4_readSides_100 rfl rfl ?_
              refine fr_iconst (pc := 101) dX4_readSides_101 (by decide) ?_
              refine fr_iadd (z := w32 (l1 + 1)) (pc := 102) dX4_readSides_102 rfl ?_
              refine fr_iload_n (pc := 103) dX4_readSides_103 rfl rfl ?_
              refine fr_inVV (a := 71) (as := [(0, w32 (l1 + 1)), (0, l2)]) (rest := []) (ls' := [(2, 71), (0, w32 (l1 + 1)), (0, l2), (9, 0), (9, 0), (9, 0)]) (c1 := 0) (c2 := 0) (pc := 104) dX4_readSides_104 pl_4_71 rfl ⟨Nat.le_of_ble_eq_true rfl, Nat.le_of_ble_eq_true rfl⟩ rfl rfl rfl s0_71 (Nat.le_of_ble_eq_true rfl) (by omega) rfl rfl (pm_zc _) (hq sc _ (by omega)) (fun M19 hq => ?_)
              refine fr_iinc (z := w32 (l5 + 1)) (ls2 := [(2, 71), (0, l1), (0, l2), (0, l3), (0, l4), (0, w32 (l5 + 1))]) (pc := 107) dX4_readSides_107 (Nat.le_of_ble_eq_true rfl) rfl rfl rfl ?_
              refine fr_goto (tg := 43) (pc := 110) dX4_readSides_110 rfl ?_
              exact hq sc d hd
            · exact fr_vret (pc := 113) dX4_readSides_113 rfl hq
        · refine fr_iconst (pc := 5) dX4_levelOf_5 (by decide) ?_
          refine fr_iret (pc := 6) dX4_levelOf_6 (Or.inl rfl) ?_
          refine fr_iload_n (pc := 71) dX4_readSides_71 rfl rfl ?_
          refine fr_icm_ne (tg := 113) (pc := 72) dX4_readSides_72 rfl hq (fun hc21 hq => ?_) (fun hc21 hq => ?_)
          · refine fr_aload_n (pc := 75) dX4_readSides_75 rfl rfl ?_
            obtain ⟨ho22, hq⟩ := hq
            refine fr_getf (a := 71) (i := 1) (v := 2) (t := 2) (pc := 76) dX4_readSides_76 rfl pf_4_15 rfl s0_71 rfl ho22 ?_
            refine fr_iload_n (pc := 79) dX4_readSides_79 rfl rfl ?_
            refine fr_bipush (pc := 80) dX4_readSides_80 (by decide) ?_
            refine fr_aload_n (pc := 82) dX4_readSides_82 rfl rfl ?_
            refine fr_getr (a := 71) (pc := 83) dX4_readSides_83 rfl pf_4_9 s0_71 rfl rf_71_0 ?_
            refine fr_getf (a := 70) (i := 5) (v := gI M 70 5) (t := 0) (pc := 86) dX4_readSides_86 rfl pf_4_97 rfl s0_70 rfl rfl ?_
            refine fr_inVV (a := 2) (as := [(0, l3), (0, 7), (0, gI M 70 5)]) (rest := []) (ls' := [(2, 2), (0, l3), (0, 7), (0, gI M 70 5)]) (c1 := 0) (c2 := 0) (pc := 89) dX4_readSides_89 pl_4_104 rfl ⟨Nat.le_of_ble_eq_true rfl, Nat.le_of_ble_eq_true rfl⟩ rfl rfl rfl s0_2 (Nat.le_of_ble_eq_true rfl) (by omega) rfl rfl (pm_zc _) (hq sc _ (by omega)) (fun M23 hq => ?_)
            refine fr_aload_n (pc := 92) dX4_readSides_92 rfl rfl ?_
            refine fr_getr (a := 71) (pc := 93) dX4_readSides_93 rfl pf_4_9 s0_71 rfl rf_71_0 ?_
            refine fr_inVV (a := 70) (as := []) (rest := []) (ls' := [(2, 70), (9, 0)]) (c1 := 0) (c2 := 0) (pc := 96) dX4_readSides_96 pl_4_64 rfl ⟨Nat.le_of_ble_eq_true rfl, Nat.le_of_ble_eq_true rfl⟩ rfl rfl rfl s0_70 (Nat.le_of_ble_eq_true rfl) (by omega) rfl rfl (pm_zc _) (hq sc _ (by omega)) (fun M25 hq => ?_)
            refine fr_aload_n (pc := 99) dX4_readSides_99 rfl rfl ?_
            refine fr_iload_n (pc := 100) dX4_readSides_100 rfl rfl ?_
            refine fr_iconst (pc := 101) dX4_readSides_101 (by decide) ?_
            refine fr_iadd (z := w32 (l1 + 1)) (pc := 102) dX4_readSides_102 rfl ?_
            refine fr_iload_n (pc := 103) dX4_readSides_103 rfl rfl ?_
            refine fr_inVV (a := 71) (as := [(0, w32 (l1 + 1)), (0, l2)]) (rest := []) (ls' := [(2, 71), (0, w32 (l1 + 1)), (0, l2), (9, 0), (9, 0), (9, 0)]) (c1 := 0) (c2 := 0) (pc := 104) dX4_readSides_104 pl_4_71 rfl ⟨Nat.le_of_ble_eq_true rfl, Nat.le_of_ble_eq_true rfl⟩ rfl rfl rfl s0_71 (Nat.le_of_ble_eq_true rfl) (by omega) rfl rfl (pm_zc _) (hq sc _ (by omega)) (fun M27 hq => ?_)
            refine fr_iinc (z := w32 (l5 + 1)) (ls2 := [(2, 71), (0, l1), (0, l2), (0, l3), (0, l4), (0, w32 (l5 + 1))]) (pc := 107) dX4_readSides_107 (Nat.le_of_ble_eq_true rfl) rfl rfl rfl ?_
            refine fr_goto (tg := 43) (pc := 110) dX4_readSides_110 rfl ?_
            exact hq sc d hd
          · exact fr_vret (pc := 113) dX4_readSides_113 rfl hq
      · exact fr_vret (pc := 113) dX4_readSides_113 rfl hq
    · exact fr_vret (pc := 113) dX4_readSides_113 rfl hq
  · refine fr_iload (pc := 43) dX4_readSides_43 rfl rfl ?_
    refine fr_iload (pc := 45) dX4_readSides_45 rfl rfl ?_
    refine fr_icm_ge (tg := 113) (pc := 47) dX4_readSides_47 rfl hq (fun hc1 hq => ?_) (fun hc1 hq => ?_)
    · refine fr_aload_n (pc := 50) dX4_readSides_50 rfl rfl ?_
      refine fr_getr (a := 71) (pc := 51) dX4_readSides_51 rfl pf_4_9 s0_71 rfl rf_71_0 ?_
      refine fr_getf (a := 70) (i := 4) (v := gI M 70 4) (t := 0) (pc := 54) dX4_readSides_54 rfl pf_4_38 rfl s0_70 rfl rfl ?_
      refine fr_iconst (pc := 57) dX4_readSides_57 (by decide) ?_
      refine fr_icm_ne (tg := 113) (pc := 58) dX4_readSides_58 rfl hq (fun hc2 hq => ?_) (fun hc2 hq => ?_)
      · refine fr_aload_n (pc := 61) dX4_readSides_61 rfl rfl ?_
        refine fr_getr (a := 71) (pc := 62) dX4_readSides_62 rfl pf_4_9 s0_71 rfl rf_71_0 ?_
        refine fr_getf (a := 70) (i := 5) (v := gI M 70 5) (t := 0) (pc := 65) dX4_readSides_65 rfl pf_4_97 rfl s0_70 rfl rfl ?_
        refine fr_inSI (as := [(0, gI M 70 5)]) (rest := []) (ls' := [(0, gI M 70 5)]) (c1 := 0) (c2 := 0) (pc := 68) dX4_readSides_68 pl_4_100 rfl ⟨Nat.le_of_ble_eq_true rfl, Nat.le_of_ble_eq_true rfl⟩ rfl rfl  (by omega) rfl rfl (pm_zc _) ?_ (fun y M' h => h)
        refine fr_iload_n (pc := 0) dX4_levelOf_0 rfl rfl ?_
        refine fr_iconst (pc := 1) dX4_levelOf_1 (by decide) ?_
        refine fr_icm_lt (tg := 7) (pc := 2) dX4_levelOf_2 rfl hq (fun hc3 hq => ?_) (fun hc3 hq => ?_)
        · refine fr_iload_n (pc := 7) dX4_levelOf_7 rfl rfl ?_
          refine fr_iconst (pc := 8) dX4_levelOf_8 (by decide) ?_
          refine fr_icm_lt (tg := 16) (pc := 9) dX4_levelOf_9 rfl hq (fun hc4 hq => ?_) (fun hc4 hq => ?_)
          · refine fr_iconst (pc := 16) dX4_levelOf_16 (by decide) ?_
            refine fr_iret (pc := 17) dX4_levelOf_17 (Or.inl rfl) ?_
            refine fr_iload_n (pc := 71) dX4_readSides_71 rfl rfl ?_
            refine fr_icm_ne (tg := 113) (pc := 72) dX4_readSides_72 rfl hq (fun hc5 hq => ?_) (fun hc5 hq => ?_)
            · refine fr_aload_n (pc := 75) dX4_readSides_75 rfl rfl ?_
              obtain ⟨ho6, hq⟩ := hq
              refine fr_getf (a := 71) (i := 1) (v := 36) (t := 2) (pc := 76) dX4_readSides_76 rfl pf_4_15 rfl s0_71 rfl ho6 ?_
              refine fr_iload_n (pc := 79) dX4_readSides_79 rfl rfl ?_
              refine fr_bipush (pc := 80) dX4_readSides_80 (by decide) ?_
              refine fr_aload_n (pc := 82) dX4_readSides_82 rfl rfl ?_
              refine fr_getr (a := 71) (pc := 83) dX4_readSides_83 rfl pf_4_9 s0_71 rfl rf_71_0 ?_
              refine fr_getf (a := 70) (i := 5) (v := gI M 70 5) (t := 0) (pc := 86) dX4_readSides_86 rfl pf_4_97 rfl s0_70 rfl rfl ?_
              refine fr_inVV (a := 36) (as := [(0, l3), (0, 7), (0, gI M 70 5)]) (rest := []) (ls' := [(2, 36), (0, l3), (0, 7), (0, gI M 70 5)]) (c1 := 0) (c2 := 0) (pc := 89) dX4_readSides_89 pl_4_104 rfl ⟨Nat.le_of_ble_eq_true rfl, Nat.le_of_ble_eq_true rfl⟩ rfl rfl rfl s0_36 (Nat.le_of_ble_eq_true rfl) (by omega) rfl rfl (pm_zc _) (hq sc _ (by omega)) (fun M7 hq => ?_)
              refine fr_aload_n (pc := 92) dX4_readSides_92 rfl rfl ?_
              refine fr_getr (a := 71) (pc := 93) dX4_readSides_93 rfl pf_4_9 s0_71 rfl rf_71_0 ?_
              refine fr_inVV (a := 70) (as := []) (rest := []) (ls' := [(2, 70), (9, 0)]) (c1 := 0) (c2 := 0) (pc := 96) dX4_readSides_96 pl_4_64 rfl ⟨Nat.le_of_ble_eq_true rfl, Nat.le_of_ble_eq_true rfl⟩ rfl rfl rfl s0_70 (Nat.le_of_ble_eq_true rfl) (by omega) rfl rfl (pm_zc _) (hq sc _ (by omega)) (fun M9 hq => ?_)
              refine fr_aload_n (pc := 99) dX4_readSides_99 rfl rfl ?_
              refine fr_iload_n (pc := 100) dX4_readSides_100 rfl rfl ?_
              refine fr_iconst (pc := 101) dX4_readSides_101 (by decide) ?_
              refine fr_iadd (z := w32 (l1 + 1)) (pc := 102) dX4_readSides_102 rfl ?_
              refine fr_iload_n (pc := 103) dX4_readSides_103 rfl rfl ?_
              refine fr_inVV (a := 71) (as := [(0, w32 (l1 + 1)), (0, l2)]) (rest := []) (ls' := [(2, 71), (0, w32 (l1 + 1)), (0, l2), (9, 0), (9, 0), (9, 0)]) (c1 := 0) (c2 := 0) (pc := 104) dX4_readSides_104 pl_4_71 rfl ⟨Nat.le_of_ble_eq_true rfl, Nat.le_of_ble_eq_true rfl⟩ rfl rfl rfl s0_71 (Nat.le_of_ble_eq_true rfl) (by omega) rfl rfl (pm_zc _) (hq sc _ (by omega)) (fun M11 hq => ?_)
              refine fr_iinc (z := w32 (l5 + 1)) (ls2 := [(2, 71), (0, l1), (0, l2), (0, l3), (0, l4), (0, w32 (l5 + 1))]) (pc := 107) dX4_readSides_107 (Nat.le_of_ble_eq_true rfl) rfl rfl rfl ?_
              refine fr_goto (tg := 43) (pc := 110) dX4_readSides_110 rfl ?_
              exact hq sc d hd
            · exact fr_vret (pc := 113) dX4_readSides_113 rfl hq
          · refine fr_iconst (pc := 12) dX4_levelOf_12 (by decide) ?_
            refine fr_goto (tg := 17) (pc := 13) dX4_levelOf_13 rfl ?_
            refine fr_iret (pc := 17) dX4_levelOf_17 (Or.inl rfl) ?_
            refine fr_iload_n (pc := 71) dX4_readSides_71 rfl rfl ?_
            refine fr_icm_ne (tg := 113) (pc := 72) dX4_readSides_72 rfl hq (fun hc13 hq => ?_) (fun hc13 hq => ?_)
            · refine fr_aload_n (pc := 75) dX4_readSides_75 rfl rfl ?_
              obtain ⟨ho14, hq⟩ := hq
              refine fr_getf (a := 71) (i := 1) (v := 36) (t := 2) (pc := 76) dX4_readSides_76 rfl pf_4_15 rfl s0_71 rfl ho14 ?_
              refine fr_iload_n (pc := 79) dX4_readSides_79 rfl rfl ?_
              refine fr_bipush (pc := 80) dX4_readSides_80 (by decide) ?_
              refine fr_aload_n (pc := 82) dX4_readSides_82 rfl rfl ?_
              refine fr_getr (a := 71) (pc := 83) dX4_readSides_83 rfl pf_4_9 s0_71 rfl rf_71_0 ?_
              refine fr_getf (a := 70) (i := 5) (v := gI M 70 5) (t := 0) (pc := 86) dX4_readSides_86 rfl pf_4_97 rfl s0_70 rfl rfl ?_
              refine fr_inVV (a := 36) (as := [(0, l3), (0, 7), (0, gI M 70 5)]) (rest := []) (ls' := [(2, 36), (0, l3), (0, 7), (0, gI M 70 5)]) (c1 := 0) (c2 := 0) (pc := 89) dX4_readSides_89 pl_4_104 rfl ⟨Nat.le_of_ble_eq_true rfl, Nat.le_of_ble_eq_true rfl⟩ rfl rfl rfl s0_36 (Nat.le_of_ble_eq_true rfl) (by omega) rfl rfl (pm_zc _) (hq sc _ (by omega)) (fun M15 hq => ?_)
              refine fr_aload_n (pc := 92) dX4_readSides_92 rfl rfl ?_
              refine fr_getr (a := 71) (pc := 93) dX4_readSides_93 rfl pf_4_9 s0_71 rfl rf_71_0 ?_
              refine fr_inVV (a := 70) (as := []) (rest := []) (ls' := [(2, 70), (9, 0)]) (c1 := 0) (c2 := 0) (pc := 96) dX4_readSides_96 pl_4_64 rfl ⟨Nat.le_of_ble_eq_true rfl, Nat.le_of_ble_eq_true rfl⟩ rfl rfl rfl s0_70 (Nat.le_of_ble_eq_true rfl) (by omega) rfl rfl (pm_zc _) (hq sc _ (by omega)) (fun M17 hq => ?_)
              refine fr_aload_n (pc := 99) dX4_readSides_99 rfl rfl ?_
              refine fr_iload_n (pc := 100) dX4_readSides_100 rfl rfl ?_
              refine fr_iconst (pc := 101) dX4_readSides_101 (by decide) ?_
              refine fr_iadd (z := w32 (l1 + 1)) (pc := 102) dX4_readSides_102 rfl ?_
              refine fr_iload_n (pc := 103) dX4_readSides_103 rfl rfl ?_
              refine fr_inVV (a := 71) (as := [(0, w32 (l1 + 1)), (0, l2)]) (rest := []) (ls' := [(2, 71), (0, w32 (l1 + 1)), (0, l2), (9, 0), (9, 0), (9, 0)]) (c1 := 0) (c2 := 0) (pc := 104) dX4_readSides_104 pl_4_71 rfl ⟨Nat.le_of_ble_eq_true rfl, Nat.le_of_ble_eq_true rfl⟩ rfl rfl rfl s0_71 (Nat.le_of_ble_eq_true rfl) (by omega) rfl rfl (pm_zc _) (hq sc _ (by omega)) (fun M19 hq => ?_)
              refine fr_iinc (z := w32 (l5 + 1)) (ls2 := [(2, 71), (0, l1), (0, l2), (0, l3), (0, l4), (0, w32 (l5 + 1))]) (pc := 107) dX4_readSides_107 (Nat.le_of_ble_eq_true rfl) rfl rfl rfl ?_
              refine fr_goto (tg := 43) (pc := 110) dX4_readSides_110 rfl ?_
              exact hq sc d hd
            · exact fr_vret (pc := 113) dX4_readSides_113 rfl hq
        · refine fr_iconst (pc := 5) dX4_levelOf_5 (by decide) ?_
          refine fr_iret (pc := 6) dX4_levelOf_6 (Or.inl rfl) ?_
          refine fr_iload_n (pc := 71) dX4_readSides_71 rfl rfl ?_
          refine fr_icm_ne (tg := 113) (pc := 72) dX4_readSides_72 rfl hq (fun hc21 hq => ?_) (fun hc21 hq => ?_)
          · refine fr_aload_n (pc := 75) dX4_readSides_75 rfl rfl ?_
            obtain ⟨ho22, hq⟩ := hq
            refine fr_getf (a := 71) (i := 1) (v := 36) (t := 2) (pc := 76) dX4_readSides_76 rfl pf_4_15 rfl s0_71 rfl ho22 ?_
            refine fr_iload_n (pc := 79) dX4_readSides_79 rfl rfl ?_
            refine fr_bipush (pc := 80) dX4_readSides_80 (by decide) ?_
            refine fr_aload_n (pc := 82) dX4_readSides_82 rfl rfl ?_
            refine fr_getr (a := 71) (pc := 83) dX4_readSides_83 rfl pf_4_9 s0_71 rfl rf_71_0 ?_
            refine fr_getf (a := 70) (i := 5) (v := gI M 70 5) (t := 0) (pc := 86) dX4_readSides_86 rfl pf_4_97 rfl s0_70 rfl rfl ?_
            refine fr_inVV (a := 36) (as := [(0, l3), (0, 7), (0, gI M 70 5)]) (rest := []) (ls' := [(2, 36), (0, l3), (0, 7), (0, gI M 70 5)]) (c1 := 0) (c2 := 0) (pc := 89) dX4_readSides_89 pl_4_104 rfl ⟨Nat.le_of_ble_eq_true rfl, Nat.le_of_ble_eq_true rfl⟩ rfl rfl rfl s0_36 (Nat.le_of_ble_eq_true rfl) (by omega) rfl rfl (pm_zc _) (hq sc _ (by omega)) (fun M23 hq => ?_)
            refine fr_aload_n (pc := 92) dX4_readSides_92 rfl rfl ?_
            refine fr_getr (a := 71) (pc := 93) dX4_readSides_93 rfl pf_4_9 s0_71 rfl rf_71_0 ?_
            refine fr_inVV (a := 70) (as := []) (rest := []) (ls' := [(2, 70), (9, 0)]) (c1 := 0) (c2 := 0) (pc := 96) dX4_readSides_96 pl_4_64 rfl ⟨Nat.le_of_ble_eq_true rfl, Nat.le_of_ble_eq_true rfl⟩ rfl rfl rfl s0_70 (Nat.le_of_ble_eq_true rfl) (by omega) rfl rfl (pm_zc _) (hq sc _ (by omega)) (fun M25 hq => ?_)
            refine fr_aload_n (pc := 99) dX4_readSides_99 rfl rfl ?_
            refine fr_iload_n (pc := 100) dX4_readSides_100 rfl rfl ?_
            refine fr_iconst (pc := 101) dX4_readSides_101 (by decide) ?_
            refine fr_iadd (z := w32 (l1 + 1)) (pc := 102) dX4_readSides_102 rfl ?_
            refine fr_iload_n (pc := 103) dX4_readSides_103 rfl rfl ?_
            refine fr_inVV (a := 71) (as := [(0, w32 (l1 + 1)), (0, l2)]) (rest := []) (ls' := [(2, 71), (0, w32 (l1 + 1)), (0, l2), (9, 0), (9, 0), (9, 0)]) (c1 := 0) (c2 := 0) (pc := 104) dX4_readSides_104 pl_4_71 rfl ⟨Nat.le_of_ble_eq_true rfl, Nat.le_of_ble_eq_true rfl⟩ rfl rfl rfl s0_71 (Nat.le_of_ble_eq_true rfl) (by omega) rfl rfl (pm_zc _) (hq sc _ (by omega)) (fun M27 hq => ?_)
            refine fr_iinc (z := w32 (l5 + 1)) (ls2 := [(2, 71), (0, l1), (0, l2), (0, l3), (0, l4), (0, w32 (l5 + 1))]) (pc := 107) dX4_readSides_107 (Nat.le_of_ble_eq_true rfl) rfl rfl rfl ?_
            refine fr_goto (tg := 43) (pc := 110) dX4_readSides_110 rfl ?_
            exact hq sc d hd
          · exact fr_vret (pc := 113) dX4_readSides_113 rfl hq
      · exact fr_vret (pc := 113) dX4_readSides_113 rfl hq
    · exact fr_vret (pc := 113) dX4_readSides_113 rfl hq
theorem k4_readPart_r {h : Nat} {o : Nat} {a1 : Int} {M : pm_M} {K : pm_M → Prop} (ho : o = 2 ∨ o = 36) (hh : 26 ≤ h) (hq : (if gI M 70 4 = 5 then (if gI M 70 5 = 40 then (if gI M 70 4 = 4 then (if gI M 70 5 = 1 then k7_variable M (fun r6 M5 => (if a1 < 8 then k4_readPart_53 h o a1 1 1 r6 M5 K else (if gI M5 70 6 = 0 then K (upI (upI M5 70 6 (w32 ((w32 (8 * (gI M5 70 3))) + 2))) 70 4 1) else K M5))) else k7_variable M (fun r10 M9 => (if a1 < 8 then k4_readPart_53 h o a1 1 0 r10 M9 K else (if gI M9 70 6 = 0 then K (upI (upI M9 70 6 (w32 ((w32 (8 * (gI M9 70 3))) + 2))) 70 4 1) else K M9)))) else k7_variable M (fun r14 M13 => (if a1 < 8 then k4_readPart_53 h o a1 1 0 r14 M13 K else (if gI M13 70 6 = 0 then K (upI (upI M13 70 6 (w32 ((w32 (8 * (gI M13 70 3))) + 2))) 70 4 1) else K M13)))) else (if gI M 70 4 = 4 then (if gI M 70 5 = 1 then k7_variable M (fun r20 M19 => (if a1 < 8 then k4_readPart_53 h o a1 0 1 r20 M19 K else (if gI M19 70 6 = 0 then K (upI (upI M19 70 6 (w32 ((w32 (8 * (gI M19 70 3))) + 2))) 70 4 1) else K M19))) else k7_variable M (fun r24 M23 => k4_readPart_53 h o a1 0 0 r24 M23 K)) else k7_variable M (fun r26 M25 => k4_readPart_53 h o a1 0 0 r26 M25 K))) else (if gI M 70 4 = 4 then (if gI M 70 5 = 1 then k7_variable M (fun r30 M29 => (if a1 < 8 then k4_readPart_53 h o a1 0 1 r30 M29 K else (if gI M29 70 6 = 0 then K (upI (upI M29 70 6 (w32 ((w32 (8 * (gI M29 70 3))) + 2))) 70 4 1) else K M29))) else k7_variable M (fun r34 M33 => k4_readPart_53 h o a1 0 0 r34 M33 K)) else k7_variable M (fun r36 M35 => k4_readPart_53 h o a1 0 0 r36 M35 K)))) : k4_readPart h o a1 M K := by
  intro sc d hd
  rcases ho with rfl | rfl
  · refine fr_aload_n (pc := 0) dX4_readPart_0 rfl rfl ?_
    refine fr_getr (a := 71) (pc := 1) dX4_readPart_1 rfl pf_4_9 s0_71 rfl rf_71_0 ?_
    refine fr_bipush (pc := 4) dX4_readPart_4 (by decide) ?_
    refine fr_inVI (a := 70) (as := [(0, 40)]) (rest := []) (ls' := [(2, 70), (0, 40)]) (c1 := 0) (c2 := 0) (pc := 6) dX4_readPart_6 pl_4_90 rfl ⟨Nat.le_of_ble_eq_true rfl, Nat.le_of_ble_eq_true rfl⟩ rfl rfl rfl s0_70 (Nat.le_of_ble_eq_true rfl) (by omega) rfl rfl (pm_zc _) ?_ (fun y M' h => h)
    refine fr_aload_n (pc := 0) dX7_isMark_0 rfl rfl ?_
    refine fr_getf (a := 70) (i := 4) (v := gI M 70 4) (t := 0) (pc := 1) dX7_isMark_1 rfl pf_7_40 rfl s0_70 rfl rfl ?_
    refine fr_iconst (pc := 4) dX7_isMark_4 (by decide) ?_
    refine fr_icm_ne (tg := 20) (pc := 5) dX7_isMark_5 rfl hq (fun hc1 hq => ?_) (fun hc1 hq => ?_)
    · refine fr_aload_n (pc := 8) dX7_isMark_8 rfl rfl ?_
      refine fr_getf (a := 70) (i := 5) (v := gI M 70 5) (t := 0) (pc := 9) dX7_isMark_9 rfl pf_7_43 rfl s0_70 rfl rfl ?_
      refine fr_iload_n (pc := 12) dX7_isMark_12 rfl rfl ?_
      refine fr_icm_ne (tg := 20) (pc := 13) dX7_isMark_13 rfl hq (fun hc2 hq => ?_) (fun hc2 hq => ?_)
      · refine fr_iconst (pc := 16) dX7_isMark_16 (by decide) ?_
        refine fr_goto (tg := 21) (pc := 17) dX7_isMark_17 rfl ?_
        refine fr_iret (pc := 21) dX7_isMark_21 (Or.inr (Or.inl ⟨rfl, Or.inr rfl⟩)) ?_
        refine fr_istore_n (ls2 := [(2, 71), (0, a1), (0, 1), (9, 0), (9, 0)]) (pc := 9) dX4_readPart_9 rfl (Nat.le_of_ble_eq_true rfl) rfl ?_
        refine fr_aload_n (pc := 10) dX4_readPart_10 rfl rfl ?_
        refine fr_getr (a := 71) (pc := 11) dX4_readPart_11 rfl pf_4_9 s0_71 rfl rf_71_0 ?_
        refine fr_iconst (pc := 14) dX4_readPart_14 (by decide) ?_
        refine fr_inVI (a := 70) (as := [(0, 1)]) (rest := []) (ls' := [(2, 70), (0, 1)]) (c1 := 0) (c2 := 0) (pc := 15) dX4_readPart_15 pl_4_107 rfl ⟨Nat.le_of_ble_eq_true rfl, Nat.le_of_ble_eq_true rfl⟩ rfl rfl rfl s0_70 (Nat.le_of_ble_eq_true rfl) (by omega) rfl rfl (pm_zc _) ?_ (fun y M' h => h)
        refine fr_aload_n (pc := 0) dX7_isSign_0 rfl rfl ?_
        refine fr_getf (a := 70) (i := 4) (v := gI M 70 4) (t := 0) (pc := 1) dX7_isSign_1 rfl pf_7_40 rfl s0_70 rfl rfl ?_
        refine fr_iconst (pc := 4) dX7_isSign_4 (by decide) ?_
        refine fr_icm_ne (tg := 20) (pc := 5) dX7_isSign_5 rfl hq (fun hc3 hq => ?_) (fun hc3 hq => ?_)
        · refine fr_aload_n (pc := 8) dX7_isSign_8 rfl rfl ?_
          refine fr_getf (a := 70) (i := 5) (v := gI M 70 5) (t := 0) (pc := 9) dX7_isSign_9 rfl pf_7_43 rfl s0_70 rfl rfl ?_
          refine fr_iload_n (pc := 12) dX7_isSign_12 rfl rfl ?_
          refine fr_icm_ne (tg := 20) (pc := 13) dX7_isSign_13 rfl hq (fun hc4 hq => ?_) (fun hc4 hq => ?_)
          · refine fr_iconst (pc := 16) dX7_isSign_16 (by decide) ?_
            refine fr_goto (tg := 21) (pc := 17) dX7_isSign_17 rfl ?_
            refine fr_iret (pc := 21) dX7_isSign_21 (Or.inr (Or.inl ⟨rfl, Or.inr rfl⟩)) ?_
            refine fr_istore_n (ls2 := [(2, 71), (0, a1), (0, 1), (0, 1), (9, 0)]) (pc := 18) dX4_readPart_18 rfl (Nat.le_of_ble_eq_true rfl) rfl ?_
            refine fr_aload_n (pc := 19) dX4_readPart_19 rfl rfl ?_
            refine fr_getr (a := 71) (pc := 20) dX4_readPart_20 rfl pf_4_9 s0_71 rfl rf_71_0 ?_
            refine fr_inVI (a := 70) (as := []) (rest := []) (ls' := [(2, 70)]) (c1 := 0) (c2 := 0) (pc := 23) dX4_readPart_23 pl_4_57 rfl ⟨Nat.le_of_ble_eq_true rfl, Nat.le_of_ble_eq_true rfl⟩ rfl rfl rfl s0_70 (Nat.le_of_ble_eq_true rfl) (by omega) rfl rfl (pm_zc _) (hq sc _ (by omega)) (fun r6 M5 hq => ?_)
            refine fr_istore (ls2 := [(2, 71), (0, a1), (0, 1), (0, 1), (0, r6)]) (pc := 26) dX4_readPart_26 rfl (Nat.le_of_ble_eq_true rfl) rfl ?_
            refine fr_iload_n (pc := 28) dX4_readPart_28 rfl rfl ?_
            refine fr_ifcT (tg := 36) (pc := 29) dX4_readPart_29 rfl rfl ?_
            refine fr_iload_n (pc := 36) dX4_readPart_36 rfl rfl ?_
            refine fr_bipush (pc := 37) dX4_readPart_37 (by decide) ?_
            refine fr_icm_lt (tg := 53) (pc := 39) dX4_readPart_39 rfl hq (fun hc7 hq => ?_) (fun hc7 hq => ?_)
            · exact hq sc d hd
            · refine fr_aload_n (pc := 42) dX4_readPart_42 rfl rfl ?_
              refine fr_getr (a := 71) (pc := 43) dX4_readPart_43 rfl pf_4_9 s0_71 rfl rf_71_0 ?_
              refine fr_iconst (pc := 46) dX4_readPart_46 (by decide) ?_
              refine fr_inVV (a := 70) (as := [(0, 2)]) (rest := []) (ls' := [(2, 70), (0, 2)]) (c1 := 0) (c2 := 0) (pc := 47) dX4_readPart_47 pl_4_54 rfl ⟨Nat.le_of_ble_eq_true rfl, Nat.le_of_ble_eq_true rfl⟩ rfl rfl rfl s0_70 (Nat.le_of_ble_eq_true rfl) (by omega) rfl rfl (pm_zc _) ?_ (fun M' h => h)
              refine fr_aload_n (pc := 0) dX7_refuse_0 rfl rfl ?_
              refine fr_getf (a := 70) (i := 6) (v := gI M5 70 6) (t := 0) (pc := 1) dX7_refuse_1 rfl pf_7_31 rfl s0_70 rfl rfl ?_
              refine fr_ifc_ne (tg := 25) (pc := 4) dX7_refuse_4 rfl hq (fun hc8 hq => ?_) (fun hc8 hq => ?_)
              · refine fr_aload_n (pc := 7) dX7_refuse_7 rfl rfl ?_
                refine fr_bipush (pc := 8) dX7_refuse_8 (by decide) ?_
                refine fr_aload_n (pc := 10) dX7_refuse_10 rfl rfl ?_
                refine fr_getf (a := 70) (i := 3) (v := gI M5 70 3) (t := 0) (pc := 11) dX7_refuse_11 rfl pf_7_37 rfl s0_70 rfl rfl ?_
                refine fr_imul (z := w32 (8 * (gI M5 70 3))) (pc := 14) dX7_refuse_14 rfl ?_
                refine fr_iload_n (pc := 15) dX7_refuse_15 rfl rfl ?_
                refine fr_iadd (z := w32 ((w32 (8 * (gI M5 70 3))) + 2)) (pc := 16) dX7_refuse_16 rfl ?_
                refine fr_put (a := 70) (i := 6) (pc := 17) dX7_refuse_17 rfl pf_7_31 rfl s0_70 rfl rfl nf_70_6 rfl ?_
                refine fr_aload_n (pc := 20) dX7_refuse_20 rfl rfl ?_
                refine fr_iconst (pc := 21) dX7_refuse_21 (by decide) ?_
                refine fr_put (a := 70) (i := 4) (pc := 22) dX7_refuse_22 rfl pf_7_40 rfl s0_70 rfl rfl nf_70_4 rfl ?_
                refine fr_vret (pc := 25) dX7_refuse_25 rfl ?_
                refine fr_goto (tg := 206) (pc := 50) dX4_readPart_50 rfl ?_
                exact fr_vret (pc := 206) dX4_readPart_206 rfl hq
              · refine fr_vret (pc := 25) dX7_refuse_25 rfl ?_
                refine fr_goto (tg := 206) (pc := 50) dX4_readPart_50 rfl ?_
                exact fr_vret (pc := 206) dX4_readPart_206 rfl hq
          · refine fr_iconst (pc := 20) dX7_isSign_20 (by decide) ?_
            refine fr_iret (pc := 21) dX7_isSign_21 (Or.inr (Or.inl ⟨rfl, Or.inl rfl⟩)) ?_
            refine fr_istore_n (ls2 := [(2, 71), (0, a1), (0, 1), (0, 0), (9, 0)]) (pc := 18) dX4_readPart_18 rfl (Nat.le_of_ble_eq_true rfl) rfl ?_
            refine fr_aload_n (pc := 19) dX4_readPart_19 rfl rfl ?_
            refine fr_getr (a := 71) (pc := 20) dX4_readPart_20 rfl pf_4_9 s0_71 rfl rf_71_0 ?_
            refine fr_inVI (a := 70) (as := []) (rest := []) (ls' := [(2, 70)]) (c1 := 0) (c2 := 0) (pc := 23) dX4_readPart_23 pl_4_57 rfl ⟨Nat.le_of_ble_eq_true rfl, Nat.le_of_ble_eq_true rfl⟩ rfl rfl rfl s0_70 (Nat.le_of_ble_eq_true rfl) (by omega) rfl rfl (pm_zc _) (hq sc _ (by omega)) (fun r10 M9 hq => ?_)
            refine fr_istore (ls2 := [(2, 71), (0, a1), (0, 1), (0, 0), (0, r10)]) (pc := 26) dX4_readPart_26 rfl (Nat.le_of_ble_eq_true rfl) rfl ?_
            refine fr_iload_n (pc := 28) dX4_readPart_28 rfl rfl ?_
            refine fr_ifcT (tg := 36) (pc := 29) dX4_readPart_29 rfl rfl ?_
            refine fr_iload_n (pc := 36) dX4_readPart_36 rfl rfl ?_
            refine fr_bipush (pc := 37) dX4_readPart_37 (by decide) ?_
            refine fr_icm_lt (tg := 53) (pc := 39) dX4_readPart_39 rfl hq (fun hc11 hq => ?_) (fun hc11 hq => ?_)
            · exact hq sc d hd
            · refine fr_aload_n (pc := 42) dX4_readPart_42 rfl rfl ?_
              refine fr_getr (a := 71) (pc := 43) dX4_readPart_43 rfl pf_4_9 s0_71 rfl rf_71_0 ?_
              refine fr_iconst (pc := 46) dX4_readPart_46 (by decide) ?_
              refine fr_inVV (a := 70) (as := [(0, 2)]) (rest := []) (ls' := [(2, 70), (0, 2)]) (c1 := 0) (c2 := 0) (pc := 47) dX4_readPart_47 pl_4_54 rfl ⟨Nat.le_of_ble_eq_true rfl, Nat.le_of_ble_eq_true rfl⟩ rfl rfl rfl s0_70 (Nat.le_of_ble_eq_true rfl) (by omega) rfl rfl (pm_zc _) ?_ (fun M' h => h)
              refine fr_aload_n (pc := 0) dX7_refuse_0 rfl rfl ?_
              refine fr_getf (a := 70) (i := 6) (v := gI M9 70 6) (t := 0) (pc := 1) dX7_refuse_1 rfl pf_7_31 rfl s0_70 rfl rfl ?_
              refine fr_ifc_ne (tg := 25) (pc := 4) dX7_refuse_4 rfl hq (fun hc12 hq => ?_) (fun hc12 hq => ?_)
              · refine fr_aload_n (pc := 7) dX7_refuse_7 rfl rfl ?_
                refine fr_bipush (pc := 8) dX7_refuse_8 (by decide) ?_
                refine fr_aload_n (pc := 10) dX7_refuse_10 rfl rfl ?_
                refine fr_getf (a := 70) (i := 3) (v := gI M9 70 3) (t := 0) (pc := 11) dX7_refuse_11 rfl pf_7_37 rfl s0_70 rfl rfl ?_
                refine fr_imul (z := w32 (8 * (gI M9 70 3))) (pc := 14) dX7_refuse_14 rfl ?_
                refine fr_iload_n (pc := 15) dX7_refuse_15 rfl rfl ?_
                refine fr_iadd (z := w32 ((w32 (8 * (gI M9 70 3))) + 2)) (pc := 16) dX7_refuse_16 rfl ?_
                refine fr_put (a := 70) (i := 6) (pc := 17) dX7_refuse_17 rfl pf_7_31 rfl s0_70 rfl rfl nf_70_6 rfl ?_
                refine fr_aload_n (pc := 20) dX7_refuse_20 rfl rfl ?_
                refine fr_iconst (pc := 21) dX7_refuse_21 (by decide) ?_
                refine fr_put (a := 70) (i := 4) (pc := 22) dX7_refuse_22 rfl pf_7_40 rfl s0_70 rfl rfl nf_70_4 rfl ?_
                refine fr_vret (pc := 25) dX7_refuse_25 rfl ?_
                refine fr_goto (tg := 206) (pc := 50) dX4_readPart_50 rfl ?_
                exact fr_vret (pc := 206) dX4_readPart_206 rfl hq
              · refine fr_vret (pc := 25) dX7_refuse_25 rfl ?_
                refine fr_goto (tg := 206) (pc := 50) dX4_readPart_50 rfl ?_
                exact fr_vret (pc := 206) dX4_readPart_206 rfl hq
        · refine fr_iconst (pc := 20) dX7_isSign_20 (by decide) ?_
          refine fr_iret (pc := 21) dX7_isSign_21 (Or.inr (Or.inl ⟨rfl, Or.inl rfl⟩)) ?_
          refine fr_istore_n (ls2 := [(2, 71), (0, a1), (0, 1), (0, 0), (9, 0)]) (pc := 18) dX4_readPart_18 rfl (Nat.le_of_ble_eq_true rfl) rfl ?_
          refine fr_aload_n (pc := 19) dX4_readPart_19 rfl rfl ?_
          refine fr_getr (a := 71) (pc := 20) dX4_readPart_20 rfl pf_4_9 s0_71 rfl rf_71_0 ?_
          refine fr_inVI (a := 70) (as := []) (rest := []) (ls' := [(2, 70)]) (c1 := 0) (c2 := 0) (pc := 23) dX4_readPart_23 pl_4_57 rfl ⟨Nat.le_of_ble_eq_true rfl, Nat.le_of_ble_eq_true rfl⟩ rfl rfl rfl s0_70 (Nat.le_of_ble_eq_true rfl) (by omega) rfl rfl (pm_zc _) (hq sc _ (by omega)) (fun r14 M13 hq => ?_)
          refine fr_istore (ls2 := [(2, 71), (0, a1), (0, 1), (0, 0), (0, r14)]) (pc := 26) dX4_readPart_26 rfl (Nat.le_of_ble_eq_true rfl) rfl ?_
          refine fr_iload_n (pc := 28) dX4_readPart_28 rfl rfl ?_
          refine fr_ifcT (tg := 36) (pc := 29) dX4_readPart_29 rfl rfl ?_
          refine fr_iload_n (pc := 36) dX4_readPart_36 rfl rfl ?_
          refine fr_bipush (pc := 37) dX4_readPart_37 (by decide) ?_
          refine fr_icm_lt (tg := 53) (pc := 39) dX4_readPart_39 rfl hq (fun hc15 hq => ?_) (fun hc15 hq => ?_)
          · exact hq sc d hd
          · refine fr_aload_n (pc := 42) dX4_readPart_42 rfl rfl ?_
            refine fr_getr (a := 71) (pc := 43) dX4_readPart_43 rfl pf_4_9 s0_71 rfl rf_71_0 ?_
            refine fr_iconst (pc := 46) dX4_readPart_46 (by decide) ?_
            refine fr_inVV (a := 70) (as := [(0, 2)]) (rest := []) (ls' := [(2, 70), (0, 2)]) (c1 := 0) (c2 := 0) (pc := 47) dX4_readPart_47 pl_4_54 rfl ⟨Nat.le_of_ble_eq_true rfl, Nat.le_of_ble_eq_true rfl⟩ rfl rfl rfl s0_70 (Nat.le_of_ble_eq_true rfl) (by omega) rfl rfl (pm_zc _) ?_ (fun M' h => h)
            refine fr_aload_n (pc := 0) dX7_refuse_0 rfl rfl ?_
            refine fr_getf (a := 70) (i := 6) (v := gI M13 70 6) (t := 0) (pc := 1) dX7_refuse_1 rfl pf_7_31 rfl s0_70 rfl rfl ?_
            refine fr_ifc_ne (tg := 25) (pc := 4) dX7_refuse_4 rfl hq (fun hc16 hq => ?_) (fun hc16 hq => ?_)
            · refine fr_aload_n (pc := 7) dX7_refuse_7 rfl rfl ?_
              refine fr_bipush (pc := 8) dX7_refuse_8 (by decide) ?_
              refine fr_aload_n (pc := 10) dX7_refuse_10 rfl rfl ?_
              refine fr_getf (a := 70) (i := 3) (v := gI M13 70 3) (t := 0) (pc := 11) dX7_refuse_11 rfl pf_7_37 rfl s0_70 rfl rfl ?_
              refine fr_imul (z := w32 (8 * (gI M13 70 3))) (pc := 14) dX7_refuse_14 rfl ?_
              refine fr_iload_n (pc := 15) dX7_refuse_15 rfl rfl ?_
              refine fr_iadd (z := w32 ((w32 (8 * (gI M13 70 3))) + 2)) (pc := 16) dX7_refuse_16 rfl ?_
              refine fr_put (a := 70) (i := 6) (pc := 17) dX7_refuse_17 rfl pf_7_31 rfl s0_70 rfl rfl nf_70_6 rfl ?_
              refine fr_aload_n (pc := 20) dX7_refuse_20 rfl rfl ?_
              refine fr_iconst (pc := 21) dX7_refuse_21 (by decide) ?_
              refine fr_put (a := 70) (i := 4) (pc := 22) dX7_refuse_22 rfl pf_7_40 rfl s0_70 rfl rfl nf_70_4 rfl ?_
              refine fr_vret (pc := 25) dX7_refuse_25 rfl ?_
              refine fr_goto (tg := 206) (pc := 50) dX4_readPart_50 rfl ?_
              exact fr_vret (pc := 206) dX4_readPart_206 rfl hq
            · refine fr_vret (pc := 25) dX7_refuse_25 rfl ?_
              refine fr_goto (tg := 206) (pc := 50) dX4_readPart_50 rfl ?_
              exact fr_vret (pc := 206) dX4_readPart_206 rfl hq
      · refine fr_iconst (pc := 20) dX7_isMark_20 (by decide) ?_
        refine fr_iret (pc := 21) dX7_isMark_21 (Or.inr (Or.inl ⟨rfl, Or.inl rfl⟩)) ?_
        refine fr_istore_n (ls2 := [(2, 71), (0, a1), (0, 0), (9, 0), (9, 0)]) (pc := 9) dX4_readPart_9 rfl (Nat.le_of_ble_eq_true rfl) rfl ?_
        refine fr_aload_n (pc := 10) dX4_readPart_10 rfl rfl ?_
        refine fr_getr (a := 71) (pc := 11) dX4_readPart_11 rfl pf_4_9 s0_71 rfl rf_71_0 ?_
        refine fr_iconst (pc := 14) dX4_readPart_14 (by decide) ?_
        refine fr_inVI (a := 70) (as := [(0, 1)]) (rest := []) (ls' := [(2, 70), (0, 1)]) (c1 := 0) (c2 := 0) (pc := 15) dX4_readPart_15 pl_4_107 rfl ⟨Nat.le_of_ble_eq_true rfl, Nat.le_of_ble_eq_true rfl⟩ rfl rfl rfl s0_70 (Nat.le_of_ble_eq_true rfl) (by omega) rfl rfl (pm_zc _) ?_ (fun y M' h => h)
        refine fr_aload_n (pc := 0) dX7_isSign_0 rfl rfl ?_
        refine fr_getf (a := 70) (i := 4) (v := gI M 70 4) (t := 0) (pc := 1) dX7_isSign_1 rfl pf_7_40 rfl s0_70 rfl rfl ?_
        refine fr_iconst (pc := 4) dX7_isSign_4 (by decide) ?_
        refine fr_icm_ne (tg := 20) (pc := 5) dX7_isSign_5 rfl hq (fun hc17 hq => ?_) (fun hc17 hq => ?_)
        · refine fr_aload_n (pc := 8) dX7_isSign_8 rfl rfl ?_
          refine fr_getf (a := 70) (i := 5) (v := gI M 70 5) (t := 0) (pc := 9) dX7_isSign_9 rfl pf_7_43 rfl s0_70 rfl rfl ?_
          refine fr_iload_n (pc := 12) dX7_isSign_12 rfl rfl ?_
          refine fr_icm_ne (tg := 20) (pc := 13) dX7_isSign_13 rfl hq (fun hc18 hq => ?_) (fun hc18 hq => ?_)
          · refine fr_iconst (pc := 16) dX7_isSign_16 (by decide) ?_
            refine fr_goto (tg := 21) (pc := 17) dX7_isSign_17 rfl ?_
            refine fr_iret (pc := 21) dX7_isSign_21 (Or.inr (Or.inl ⟨rfl, Or.inr rfl⟩)) ?_
            refine fr_istore_n (ls2 := [(2, 71), (0, a1), (0, 0), (0, 1), (9, 0)]) (pc := 18) dX4_readPart_18 rfl (Nat.le_of_ble_eq_true rfl) rfl ?_
            refine fr_aload_n (pc := 19) dX4_readPart_19 rfl rfl ?_
            refine fr_getr (a := 71) (pc := 20) dX4_readPart_20 rfl pf_4_9 s0_71 rfl rf_71_0 ?_
            refine fr_inVI (a := 70) (as := []) (rest := []) (ls' := [(2, 70)]) (c1 := 0) (c2 := 0) (pc := 23) dX4_readPart_23 pl_4_57 rfl ⟨Nat.le_of_ble_eq_true rfl, Nat.le_of_ble_eq_true rfl⟩ rfl rfl rfl s0_70 (Nat.le_of_ble_eq_true rfl) (by omega) rfl rfl (pm_zc _) (hq sc _ (by omega)) (fun r20 M19 hq => ?_)
            refine fr_istore (ls2 := [(2, 71), (0, a1), (0, 0), (0, 1), (0, r20)]) (pc := 26) dX4_readPart_26 rfl (Nat.le_of_ble_eq_true rfl) rfl ?_
            refine fr_iload_n (pc := 28) dX4_readPart_28 rfl rfl ?_
            refine fr_ifcF (tg := 36) (pc := 29) dX4_readPart_29 rfl rfl ?_
            refine fr_iload_n (pc := 32) dX4_readPart_32 rfl rfl ?_
            refine fr_ifcF (tg := 53) (pc := 33) dX4_readPart_33 rfl rfl ?_
            refine fr_iload_n (pc := 36) dX4_readPart_36 rfl rfl ?_
            refine fr_bipush (pc := 37) dX4_readPart_37 (by decide) ?_
            refine fr_icm_lt (tg := 53) (pc := 39) dX4_readPart_39 rfl hq (fun hc21 hq => ?_) (fun hc21 hq => ?_)
            · exact hq sc d hd
            · refine fr_aload_n (pc := 42) dX4_readPart_42 rfl rfl ?_
              refine fr_getr (a := 71) (pc := 43) dX4_readPart_43 rfl pf_4_9 s0_71 rfl rf_71_0 ?_
              refine fr_iconst (pc := 46) dX4_readPart_46 (by decide) ?_
              refine fr_inVV (a := 70) (as := [(0, 2)]) (rest := []) (ls' := [(2, 70), (0, 2)]) (c1 := 0) (c2 := 0) (pc := 47) dX4_readPart_47 pl_4_54 rfl ⟨Nat.le_of_ble_eq_true rfl, Nat.le_of_ble_eq_true rfl⟩ rfl rfl rfl s0_70 (Nat.le_of_ble_eq_true rfl) (by omega) rfl rfl (pm_zc _) ?_ (fun M' h => h)
              refine fr_aload_n (pc := 0) dX7_refuse_0 rfl rfl ?_
              refine fr_getf (a := 70) (i := 6) (v := gI M19 70 6) (t := 0) (pc := 1) dX7_refuse_1 rfl pf_7_31 rfl s0_70 rfl rfl ?_
              refine fr_ifc_ne (tg := 25) (pc := 4) dX7_refuse_4 rfl hq (fun hc22 hq => ?_) (fun hc22 hq => ?_)
              · refine fr_aload_n (pc := 7) dX7_refuse_7 rfl rfl ?_
                refine fr_bipush (pc := 8) dX7_refuse_8 (by decide) ?_
                refine fr_aload_n (pc := 10) dX7_refuse_10 rfl rfl ?_
                refine fr_getf (a := 70) (i := 3) (v := gI M19 70 3) (t := 0) (pc := 11) dX7_refuse_11 rfl pf_7_37 rfl s0_70 rfl rfl ?_
                refine fr_imul (z := w32 (8 * (gI M19 70 3))) (pc := 14) dX7_refuse_14 rfl ?_
                refine fr_iload_n (pc := 15) dX7_refuse_15 rfl rfl ?_
                refine fr_iadd (z := w32 ((w32 (8 * (gI M19 70 3))) + 2)) (pc := 16) dX7_refuse_16 rfl ?_
                refine fr_put (a := 70) (i := 6) (pc := 17) dX7_refuse_17 rfl pf_7_31 rfl s0_70 rfl rfl nf_70_6 rfl ?_
                refine fr_aload_n (pc := 20) dX7_refuse_20 rfl rfl ?_
                refine fr_iconst (pc := 21) dX7_refuse_21 (by decide) ?_
                refine fr_put (a := 70) (i := 4) (pc := 22) dX7_refuse_22 rfl pf_7_40 rfl s0_70 rfl rfl nf_70_4 rfl ?_
                refine fr_vret (pc := 25) dX7_refuse_25 rfl ?_
                refine fr_goto (tg := 206) (pc := 50) dX4_readPart_50 rfl ?_
                exact fr_vret (pc := 206) dX4_readPart_206 rfl hq
              · refine fr_vret (pc := 25) dX7_refuse_25 rfl ?_
                refine fr_goto (tg := 206) (pc := 50) dX4_readPart_50 rfl ?_
                exact fr_vret (pc := 206) dX4_readPart_206 rfl hq
          · refine fr_iconst (pc := 20) dX7_isSign_20 (by decide) ?_
            refine fr_iret (pc := 21) dX7_isSign_21 (Or.inr (Or.inl ⟨rfl, Or.inl rfl⟩)) ?_
            refine fr_istore_n (ls2 := [(2, 71), (0, a1), (0, 0), (0, 0), (9, 0)]) (pc := 18) dX4_readPart_18 rfl (Nat.le_of_ble_eq_true rfl) rfl ?_
            refine fr_aload_n (pc := 19) dX4_readPart_19 rfl rfl ?_
            refine fr_getr (a := 71) (pc := 20) dX4_readPart_20 rfl pf_4_9 s0_71 rfl rf_71_0 ?_
            refine fr_inVI (a := 70) (as := []) (rest := []) (ls' := [(2, 70)]) (c1 := 0) (c2 := 0) (pc := 23) dX4_readPart_23 pl_4_57 rfl ⟨Nat.le_of_ble_eq_true rfl, Nat.le_of_ble_eq_true rfl⟩ rfl rfl rfl s0_70 (Nat.le_of_ble_eq_true rfl) (by omega) rfl rfl (pm_zc _) (hq sc _ (by omega)) (fun r24 M23 hq => ?_)
            refine fr_istore (ls2 := [(2, 71), (0, a1), (0, 0), (0, 0), (0, r24)]) (pc := 26) dX4_readPart_26 rfl (Nat.le_of_ble_eq_true rfl) rfl ?_
            refine fr_iload_n (pc := 28) dX4_readPart_28 rfl rfl ?_
            refine fr_ifcF (tg := 36) (pc := 29) dX4_readPart_29 rfl rfl ?_
            refine fr_iload_n (pc := 32) dX4_readPart_32 rfl rfl ?_
            refine fr_ifcT (tg := 53) (pc := 33) dX4_readPart_33 rfl rfl ?_
            exact hq sc d hd
        · refine fr_iconst (pc := 20) dX7_isSign_20 (by decide) ?_
          refine fr_iret (pc := 21) dX7_isSign_21 (Or.inr (Or.inl ⟨rfl, Or.inl rfl⟩)) ?_
          refine fr_istore_n (ls2 := [(2, 71), (0, a1), (0, 0), (0, 0), (9, 0)]) (pc := 18) dX4_readPart_18 rfl (Nat.le_of_ble_eq_true rfl) rfl ?_
          refine fr_aload_n (pc := 19) dX4_readPart_19 rfl rfl ?_
          refine fr_getr (a := 71) (pc := 20) dX4_readPart_20 rfl pf_4_9 s0_71 rfl rf_71_0 ?_
          refine fr_inVI (a := 70) (as := []) (rest := []) (ls' := [(2, 70)]) (c1 := 0) (c2 := 0) (pc := 23) dX4_readPart_23 pl_4_57 rfl ⟨Nat.le_of_ble_eq_true rfl, Nat.le_of_ble_eq_true rfl⟩ rfl rfl rfl s0_70 (Nat.le_of_ble_eq_true rfl) (by omega) rfl rfl (pm_zc _) (hq sc _ (by omega)) (fun r26 M25 hq => ?_)
          refine fr_istore (ls2 := [(2, 71), (0, a1), (0, 0), (0, 0), (0, r26)]) (pc := 26) dX4_readPart_26 rfl (Nat.le_of_ble_eq_true rfl) rfl ?_
          refine fr_iload_n (pc := 28) dX4_readPart_28 rfl rfl ?_
          refine fr_ifcF (tg := 36) (pc := 29) dX4_readPart_29 rfl rfl ?_
          refine fr_iload_n (pc := 32) dX4_readPart_32 rfl rfl ?_
          refine fr_ifcT (tg := 53) (pc := 33) dX4_readPart_33 rfl rfl ?_
          exact hq sc d hd
    · refine fr_iconst (pc := 20) dX7_isMark_20 (by decide) ?_
      refine fr_iret (pc := 21) dX7_isMark_21 (Or.inr (Or.inl ⟨rfl, Or.inl rfl⟩)) ?_
      refine fr_istore_n (ls2 := [(2, 71), (0, a1), (0, 0), (9, 0), (9, 0)]) (pc := 9) dX4_readPart_9 rfl (Nat.le_of_ble_eq_true rfl) rfl ?_
      refine fr_aload_n (pc := 10) dX4_readPart_10 rfl rfl ?_
      refine fr_getr (a := 71) (pc := 11) dX4_readPart_11 rfl pf_4_9 s0_71 rfl rf_71_0 ?_
      refine fr_iconst (pc := 14) dX4_readPart_14 (by decide) ?_
      refine fr_inVI (a := 70) (as := [(0, 1)]) (rest := []) (ls' := [(2, 70), (0, 1)]) (c1 := 0) (c2 := 0) (pc := 15) dX4_readPart_15 pl_4_107 rfl ⟨Nat.le_of_ble_eq_true rfl, Nat.le_of_ble_eq_true rfl⟩ rfl rfl rfl s0_70 (Nat.le_of_ble_eq_true rfl) (by omega) rfl rfl (pm_zc _) ?_ (fun y M' h => h)
      refine fr_aload_n (pc := 0) dX7_isSign_0 rfl rfl ?_
      refine fr_getf (a := 70) (i := 4) (v := gI M 70 4) (t := 0) (pc := 1) dX7_isSign_1 rfl pf_7_40 rfl s0_70 rfl rfl ?_
      refine fr_iconst (pc := 4) dX7_isSign_4 (by decide) ?_
      refine fr_icm_ne (tg := 20) (pc := 5) dX7_isSign_5 rfl hq (fun hc27 hq => ?_) (fun hc27 hq => ?_)
      · refine fr_aload_n (pc := 8) dX7_isSign_8 rfl rfl ?_
        refine fr_getf (a := 70) (i := 5) (v := gI M 70 5) (t := 0) (pc := 9) dX7_isSign_9 rfl pf_7_43 rfl s0_70 rfl rfl ?_
        refine fr_iload_n (pc := 12) dX7_isSign_12 rfl rfl ?_
        refine fr_icm_ne (tg := 20) (pc := 13) dX7_isSign_13 rfl hq (fun hc28 hq => ?_) (fun hc28 hq => ?_)
        · refine fr_iconst (pc := 16) dX7_isSign_16 (by decide) ?_
          refine fr_goto (tg := 21) (pc := 17) dX7_isSign_17 rfl ?_
          refine fr_iret (pc := 21) dX7_isSign_21 (Or.inr (Or.inl ⟨rfl, Or.inr rfl⟩)) ?_
          refine fr_istore_n (ls2 := [(2, 71), (0, a1), (0, 0), (0, 1), (9, 0)]) (pc := 18) dX4_readPart_18 rfl (Nat.le_of_ble_eq_true rfl) rfl ?_
          refine fr_aload_n (pc := 19) dX4_readPart_19 rfl rfl ?_
          refine fr_getr (a := 71) (pc := 20) dX4_readPart_20 rfl pf_4_9 s0_71 rfl rf_71_0 ?_
          refine fr_inVI (a := 70) (as := []) (rest := []) (ls' := [(2, 70)]) (c1 := 0) (c2 := 0) (pc := 23) dX4_readPart_23 pl_4_57 rfl ⟨Nat.le_of_ble_eq_true rfl, Nat.le_of_ble_eq_true rfl⟩ rfl rfl rfl s0_70 (Nat.le_of_ble_eq_true rfl) (by omega) rfl rfl (pm_zc _) (hq sc _ (by omega)) (fun r30 M29 hq => ?_)
          refine fr_istore (ls2 := [(2, 71), (0, a1), (0, 0), (0, 1), (0, r30)]) (pc := 26) dX4_readPart_26 rfl (Nat.le_of_ble_eq_true rfl) rfl ?_
          refine fr_iload_n (pc := 28) dX4_readPart_28 rfl rfl ?_
          refine fr_ifcF (tg := 36) (pc := 29) dX4_readPart_29 rfl rfl ?_
          refine fr_iload_n (pc := 32) dX4_readPart_32 rfl rfl ?_
          refine fr_ifcF (tg := 53) (pc := 33) dX4_readPart_33 rfl rfl ?_
          refine fr_iload_n (pc := 36) dX4_readPart_36 rfl rfl ?_
          refine fr_bipush (pc := 37) dX4_readPart_37 (by decide) ?_
          refine fr_icm_lt (tg := 53) (pc := 39) dX4_readPart_39 rfl hq (fun hc31 hq => ?_) (fun hc31 hq => ?_)
          · exact hq sc d hd
          · refine fr_aload_n (pc := 42) dX4_readPart_42 rfl rfl ?_
            refine fr_getr (a := 71) (pc := 43) dX4_readPart_43 rfl pf_4_9 s0_71 rfl rf_71_0 ?_
            refine fr_iconst (pc := 46) dX4_readPart_46 (by decide) ?_
            refine fr_inVV (a := 70) (as := [(0, 2)]) (rest := []) (ls' := [(2, 70), (0, 2)]) (c1 := 0) (c2 := 0) (pc := 47) dX4_readPart_47 pl_4_54 rfl ⟨Nat.le_of_ble_eq_true rfl, Nat.le_of_ble_eq_true rfl⟩ rfl rfl rfl s0_70 (Nat.le_of_ble_eq_true rfl) (by omega) rfl rfl (pm_zc _) ?_ (fun M' h => h)
            refine fr_aload_n (pc := 0) dX7_refuse_0 rfl rfl ?_
            refine fr_getf (a := 70) (i := 6) (v := gI M29 70 6) (t := 0) (pc := 1) dX7_refuse_1 rfl pf_7_31 rfl s0_70 rfl rfl ?_
            refine fr_ifc_ne (tg := 25) (pc := 4) dX7_refuse_4 rfl hq (fun hc32 hq => ?_) (fun hc32 hq => ?_)
            · refine fr_aload_n (pc := 7) dX7_refuse_7 rfl rfl ?_
              refine fr_bipush (pc := 8) dX7_refuse_8 (by decide) ?_
              refine fr_aload_n (pc := 10) dX7_refuse_10 rfl rfl ?_
              refine fr_getf (a := 70) (i := 3) (v := gI M29 70 3) (t := 0) (pc := 11) dX7_refuse_11 rfl pf_7_37 rfl s0_70 rfl rfl ?_
              refine fr_imul (z := w32 (8 * (gI M29 70 3))) (pc := 14) dX7_refuse_14 rfl ?_
              refine fr_iload_n (pc := 15) dX7_refuse_15 rfl rfl ?_
              refine fr_iadd (z := w32 ((w32 (8 * (gI M29 70 3))) + 2)) (pc := 16) dX7_refuse_16 rfl ?_
              refine fr_put (a := 70) (i := 6) (pc := 17) dX7_refuse_17 rfl pf_7_31 rfl s0_70 rfl rfl nf_70_6 rfl ?_
              refine fr_aload_n (pc := 20) dX7_refuse_20 rfl rfl ?_
              refine fr_iconst (pc := 21) dX7_refuse_21 (by decide) ?_
              refine fr_put (a := 70) (i := 4) (pc := 22) dX7_refuse_22 rfl pf_7_40 rfl s0_70 rfl rfl nf_70_4 rfl ?_
              refine fr_vret (pc := 25) dX7_refuse_25 rfl ?_
              refine fr_goto (tg := 206) (pc := 50) dX4_readPart_50 rfl ?_
              exact fr_vret (pc := 206) dX4_readPart_206 rfl hq
            · refine fr_vret (pc := 25) dX7_refuse_25 rfl ?_
              refine fr_goto (tg := 206) (pc := 50) dX4_readPart_50 rfl ?_
              exact fr_vret (pc := 206) dX4_readPart_206 rfl hq
        · refine fr_iconst (pc := 20) dX7_isSign_20 (by decide) ?_
          refine fr_iret (pc := 21) dX7_isSign_21 (Or.inr (Or.inl ⟨rfl, Or.inl rfl⟩)) ?_
          refine fr_istore_n (ls2 := [(2, 71), (0, a1), (0, 0), (0, 0), (9, 0)]) (pc := 18) dX4_readPart_18 rfl (Nat.le_of_ble_eq_true rfl) rfl ?_
          refine fr_aload_n (pc := 19) dX4_readPart_19 rfl rfl ?_
          refine fr_getr (a := 71) (pc := 20) dX4_readPart_20 rfl pf_4_9 s0_71 rfl rf_71_0 ?_
          refine fr_inVI (a := 70) (as := []) (rest := []) (ls' := [(2, 70)]) (c1 := 0) (c2 := 0) (pc := 23) dX4_readPart_23 pl_4_57 rfl ⟨Nat.le_of_ble_eq_true rfl, Nat.le_of_ble_eq_true rfl⟩ rfl rfl rfl s0_70 (Nat.le_of_ble_eq_true rfl) (by omega) rfl rfl (pm_zc _) (hq sc _ (by omega)) (fun r34 M33 hq => ?_)
          refine fr_istore (ls2 := [(2, 71), (0, a1), (0, 0), (0, 0), (0, r34)]) (pc := 26) dX4_readPart_26 rfl (Nat.le_of_ble_eq_true rfl) rfl ?_
          refine fr_iload_n (pc := 28) dX4_readPart_28 rfl rfl ?_
          refine fr_ifcF (tg := 36) (pc := 29) dX4_readPart_29 rfl rfl ?_
          refine fr_iload_n (pc := 32) dX4_readPart_32 rfl rfl ?_
          refine fr_ifcT (tg := 53) (pc := 33) dX4_readPart_33 rfl rfl ?_
          exact hq sc d hd
      · refine fr_iconst (pc := 20) dX7_isSign_20 (by decide) ?_
        refine fr_iret (pc := 21) dX7_isSign_21 (Or.inr (Or.inl ⟨rfl, Or.inl rfl⟩)) ?_
        refine fr_istore_n (ls2 := [(2, 71), (0, a1), (0, 0), (0, 0), (9, 0)]) (pc := 18) dX4_readPart_18 rfl (Nat.le_of_ble_eq_true rfl) rfl ?_
        refine fr_aload_n (pc := 19) dX4_readPart_19 rfl rfl ?_
        refine fr_getr (a := 71) (pc := 20) dX4_readPart_20 rfl pf_4_9 s0_71 rfl rf_71_0 ?_
        refine fr_inVI (a := 70) (as := []) (rest := []) (ls' := [(2, 70)]) (c1 := 0) (c2 := 0) (pc := 23) dX4_readPart_23 pl_4_57 rfl ⟨Nat.le_of_ble_eq_true rfl, Nat.le_of_ble_eq_true rfl⟩ rfl rfl rfl s0_70 (Nat.le_of_ble_eq_true rfl) (by omega) rfl rfl (pm_zc _) (hq sc _ (by omega)) (fun r36 M35 hq => ?_)
        refine fr_istore (ls2 := [(2, 71), (0, a1), (0, 0), (0, 0), (0, r36)]) (pc := 26) dX4_readPart_26 rfl (Nat.le_of_ble_eq_true rfl) rfl ?_
        refine fr_iload_n (pc := 28) dX4_readPart_28 rfl rfl ?_
        refine fr_ifcF (tg := 36) (pc := 29) dX4_readPart_29 rfl rfl ?_
        refine fr_iload_n (pc := 32) dX4_readPart_32 rfl rfl ?_
        refine fr_ifcT (tg := 53) (pc := 33) dX4_readPart_33 rfl rfl ?_
        exact hq sc d hd
  · refine fr_aload_n (pc := 0) dX4_readPart_0 rfl rfl ?_
    refine fr_getr (a := 71) (pc := 1) dX4_readPart_1 rfl pf_4_9 s0_71 rfl rf_71_0 ?_
    refine fr_bipush (pc := 4) dX4_readPart_4 (by decide) ?_
    refine fr_inVI (a := 70) (as := [(0, 40)]) (rest := []) (ls' := [(2, 70), (0, 40)]) (c1 := 0) (c2 := 0) (pc := 6) dX4_readPart_6 pl_4_90 rfl ⟨Nat.le_of_ble_eq_true rfl, Nat.le_of_ble_eq_true rfl⟩ rfl rfl rfl s0_70 (Nat.le_of_ble_eq_true rfl) (by omega) rfl rfl (pm_zc _) ?_ (fun y M' h => h)
    refine fr_aload_n (pc := 0) dX7_isMark_0 rfl rfl ?_
    refine fr_getf (a := 70) (i := 4) (v := gI M 70 4) (t := 0) (pc := 1) dX7_isMark_1 rfl pf_7_40 rfl s0_70 rfl rfl ?_
    refine fr_iconst (pc := 4) dX7_isMark_4 (by decide) ?_
    refine fr_icm_ne (tg := 20) (pc := 5) dX7_isMark_5 rfl hq (fun hc1 hq => ?_) (fun hc1 hq => ?_)
    · refine fr_aload_n (pc := 8) dX7_isMark_8 rfl rfl ?_
      refine fr_getf (a := 70) (i := 5) (v := gI M 70 5) (t := 0) (pc := 9) dX7_isMark_9 rfl pf_7_43 rfl s0_70 rfl rfl ?_
      refine fr_iload_n (pc := 12) dX7_isMark_12 rfl rfl ?_
      refine fr_icm_ne (tg := 20) (pc := 13) dX7_isMark_13 rfl hq (fun hc2 hq => ?_) (fun hc2 hq => ?_)
      · refine fr_iconst (pc := 16) dX7_isMark_16 (by decide) ?_
        refine fr_goto (tg := 21) (pc := 17) dX7_isMark_17 rfl ?_
        refine fr_iret (pc := 21) dX7_isMark_21 (Or.inr (Or.inl ⟨rfl, Or.inr rfl⟩)) ?_
        refine fr_istore_n (ls2 := [(2, 71), (0, a1), (0, 1), (9, 0), (9, 0)]) (pc := 9) dX4_readPart_9 rfl (Nat.le_of_ble_eq_true rfl) rfl ?_
        refine fr_aload_n (pc := 10) dX4_readPart_10 rfl rfl ?_
        refine fr_getr (a := 71) (pc := 11) dX4_readPart_11 rfl pf_4_9 s0_71 rfl rf_71_0 ?_
        refine fr_iconst (pc := 14) dX4_readPart_14 (by decide) ?_
        refine fr_inVI (a := 70) (as := [(0, 1)]) (rest := []) (ls' := [(2, 70), (0, 1)]) (c1 := 0) (c2 := 0) (pc := 15) dX4_readPart_15 pl_4_107 rfl ⟨Nat.le_of_ble_eq_true rfl, Nat.le_of_ble_eq_true rfl⟩ rfl rfl rfl s0_70 (Nat.le_of_ble_eq_true rfl) (by omega) rfl rfl (pm_zc _) ?_ (fun y M' h => h)
        refine fr_aload_n (pc := 0) dX7_isSign_0 rfl rfl ?_
        refine fr_getf (a := 70) (i := 4) (v := gI M 70 4) (t := 0) (pc := 1) dX7_isSign_1 rfl pf_7_40 rfl s0_70 rfl rfl ?_
        refine fr_iconst (pc := 4) dX7_isSign_4 (by decide) ?_
        refine fr_icm_ne (tg := 20) (pc := 5) dX7_isSign_5 rfl hq (fun hc3 hq => ?_) (fun hc3 hq => ?_)
        · refine fr_aload_n (pc := 8) dX7_isSign_8 rfl rfl ?_
          refine fr_getf (a := 70) (i := 5) (v := gI M 70 5) (t := 0) (pc := 9) dX7_isSign_9 rfl pf_7_43 rfl s0_70 rfl rfl ?_
          refine fr_iload_n (pc := 12) dX7_isSign_12 rfl rfl ?_
          refine fr_icm_ne (tg := 20) (pc := 13) dX7_isSign_13 rfl hq (fun hc4 hq => ?_) (fun hc4 hq => ?_)
          · refine fr_iconst (pc := 16) dX7_isSign_16 (by decide) ?_
            refine fr_goto (tg := 21) (pc := 17) dX7_isSign_17 rfl ?_
            refine fr_iret (pc := 21) dX7_isSign_21 (Or.inr (Or.inl ⟨rfl, Or.inr rfl⟩)) ?_
            refine fr_istore_n (ls2 := [(2, 71), (0, a1), (0, 1), (0, 1), (9, 0)]) (pc := 18) dX4_readPart_18 rfl (Nat.le_of_ble_eq_true rfl) rfl ?_
            refine fr_aload_n (pc := 19) dX4_readPart_19 rfl rfl ?_
            refine fr_getr (a := 71) (pc := 20) dX4_readPart_20 rfl pf_4_9 s0_71 rfl rf_71_0 ?_
            refine fr_inVI (a := 70) (as := []) (rest := []) (ls' := [(2, 70)]) (c1 := 0) (c2 := 0) (pc := 23) dX4_readPart_23 pl_4_57 rfl ⟨Nat.le_of_ble_eq_true rfl, Nat.le_of_ble_eq_true rfl⟩ rfl rfl rfl s0_70 (Nat.le_of_ble_eq_true rfl) (by omega) rfl rfl (pm_zc _) (hq sc _ (by omega)) (fun r6 M5 hq => ?_)
            refine fr_istore (ls2 := [(2, 71), (0, a1), (0, 1), (0, 1), (0, r6)]) (pc := 26) dX4_readPart_26 rfl (Nat.le_of_ble_eq_true rfl) rfl ?_
            refine fr_iload_n (pc := 28) dX4_readPart_28 rfl rfl ?_
            refine fr_ifcT (tg := 36) (pc := 29) dX4_readPart_29 rfl rfl ?_
            refine fr_iload_n (pc := 36) dX4_readPart_36 rfl rfl ?_
            refine fr_bipush (pc := 37) dX4_readPart_37 (by decide) ?_
            refine fr_icm_lt (tg := 53) (pc := 39) dX4_readPart_39 rfl hq (fun hc7 hq => ?_) (fun hc7 hq => ?_)
            · exact hq sc d hd
            · refine fr_aload_n (pc := 42) dX4_readPart_42 rfl rfl ?_
              refine fr_getr (a := 71) (pc := 43) dX4_readPart_43 rfl pf_4_9 s0_71 rfl rf_71_0 ?_
              refine fr_iconst (pc := 46) dX4_readPart_46 (by decide) ?_
              refine fr_inVV (a := 70) (as := [(0, 2)]) (rest := []) (ls' := [(2, 70), (0, 2)]) (c1 := 0) (c2 := 0) (pc := 47) dX4_readPart_47 pl_4_54 rfl ⟨Nat.le_of_ble_eq_true rfl, Nat.le_of_ble_eq_true rfl⟩ rfl rfl rfl s0_70 (Nat.le_of_ble_eq_true rfl) (by omega) rfl rfl (pm_zc _) ?_ (fun M' h => h)
              refine fr_aload_n (pc := 0) dX7_refuse_0 rfl rfl ?_
              refine fr_getf (a := 70) (i := 6) (v := gI M5 70 6) (t := 0) (pc := 1) dX7_refuse_1 rfl pf_7_31 rfl s0_70 rfl rfl ?_
              refine fr_ifc_ne (tg := 25) (pc := 4) dX7_refuse_4 rfl hq (fun hc8 hq => ?_) (fun hc8 hq => ?_)
              · refine fr_aload_n (pc := 7) dX7_refuse_7 rfl rfl ?_
                refine fr_bipush (pc := 8) dX7_refuse_8 (by decide) ?_
                refine fr_aload_n (pc := 10) dX7_refuse_10 rfl rfl ?_
                refine fr_getf (a := 70) (i := 3) (v := gI M5 70 3) (t := 0) (pc := 11) dX7_refuse_11 rfl pf_7_37 rfl s0_70 rfl rfl ?_
                refine fr_imul (z := w32 (8 * (gI M5 70 3))) (pc := 14) dX7_refuse_14 rfl ?_
                refine fr_iload_n (pc := 15) dX7_refuse_15 rfl rfl ?_
                refine fr_iadd (z := w32 ((w32 (8 * (gI M5 70 3))) + 2)) (pc := 16) dX7_refuse_16 rfl ?_
                refine fr_put (a := 70) (i := 6) (pc := 17) dX7_refuse_17 rfl pf_7_31 rfl s0_70 rfl rfl nf_70_6 rfl ?_
                refine fr_aload_n (pc := 20) dX7_refuse_20 rfl rfl ?_
                refine fr_iconst (pc := 21) dX7_refuse_21 (by decide) ?_
                refine fr_put (a := 70) (i := 4) (pc := 22) dX7_refuse_22 rfl pf_7_40 rfl s0_70 rfl rfl nf_70_4 rfl ?_
                refine fr_vret (pc := 25) dX7_refuse_25 rfl ?_
                refine fr_goto (tg := 206) (pc := 50) dX4_readPart_50 rfl ?_
                exact fr_vret (pc := 206) dX4_readPart_206 rfl hq
              · refine fr_vret (pc := 25) dX7_refuse_25 rfl ?_
                refine fr_goto (tg := 206) (pc := 50) dX4_readPart_50 rfl ?_
                exact fr_vret (pc := 206) dX4_readPart_206 rfl hq
          · refine fr_iconst (pc := 20) dX7_isSign_20 (by decide) ?_
            refine fr_iret (pc := 21) dX7_isSign_21 (Or.inr (Or.inl ⟨rfl, Or.inl rfl⟩)) ?_
            refine fr_istore_n (ls2 := [(2, 71), (0, a1), (0, 1), (0, 0), (9, 0)]) (pc := 18) dX4_readPart_18 rfl (Nat.le_of_ble_eq_true rfl) rfl ?_
            refine fr_aload_n (pc := 19) dX4_readPart_19 rfl rfl ?_
            refine fr_getr (a := 71) (pc := 20) dX4_readPart_20 rfl pf_4_9 s0_71 rfl rf_71_0 ?_
            refine fr_inVI (a := 70) (as := []) (rest := []) (ls' := [(2, 70)]) (c1 := 0) (c2 := 0) (pc := 23) dX4_readPart_23 pl_4_57 rfl ⟨Nat.le_of_ble_eq_true rfl, Nat.le_of_ble_eq_true rfl⟩ rfl rfl rfl s0_70 (Nat.le_of_ble_eq_true rfl) (by omega) rfl rfl (pm_zc _) (hq sc _ (by omega)) (fun r10 M9 hq => ?_)
            refine fr_istore (ls2 := [(2, 71), (0, a1), (0, 1), (0, 0), (0, r10)]) (pc := 26) dX4_readPart_26 rfl (Nat.le_of_ble_eq_true rfl) rfl ?_
            refine fr_iload_n (pc := 28) dX4_readPart_28 rfl rfl ?_
            refine fr_ifcT (tg := 36) (pc := 29) dX4_readPart_29 rfl rfl ?_
            refine fr_iload_n (pc := 36) dX4_readPart_36 rfl rfl ?_
            refine fr_bipush (pc := 37) dX4_readPart_37 (by decide) ?_
            refine fr_icm_lt (tg := 53) (pc := 39) dX4_readPart_39 rfl hq (fun hc11 hq => ?_) (fun hc11 hq => ?_)
            · exact hq sc d hd
            · refine fr_aload_n (pc := 42) dX4_readPart_42 rfl rfl ?_
              refine fr_getr (a := 71) (pc := 43) dX4_readPart_43 rfl pf_4_9 s0_71 rfl rf_71_0 ?_
              refine fr_iconst (pc := 46) dX4_readPart_46 (by decide) ?_
              refine fr_inVV (a := 70) (as := [(0, 2)]) (rest := []) (ls' := [(2, 70), (0, 2)]) (c1 := 0) (c2 := 0) (pc := 47) dX4_readPart_47 pl_4_54 rfl ⟨Nat.le_of_ble_eq_true rfl, Nat.le_of_ble_eq_true rfl⟩ rfl rfl rfl s0_70 (Nat.le_of_ble_eq_true rfl) (by omega) rfl rfl (pm_zc _) ?_ (fun M' h => h)
              refine fr_aload_n (pc := 0) dX7_refuse_0 rfl rfl ?_
              refine fr_getf (a := 70) (i := 6) (v := gI M9 70 6) (t := 0) (pc := 1) dX7_refuse_1 rfl pf_7_31 rfl s0_70 rfl rfl ?_
              refine fr_ifc_ne (tg := 25) (pc := 4) dX7_refuse_4 rfl hq (fun hc12 hq => ?_) (fun hc12 hq => ?_)
              · refine fr_aload_n (pc := 7) dX7_refuse_7 rfl rfl ?_
                refine fr_bipush (pc := 8) dX7_refuse_8 (by decide) ?_
                refine fr_aload_n (pc := 10) dX7_refuse_10 rfl rfl ?_
                refine fr_getf (a := 70) (i := 3) (v := gI M9 70 3) (t := 0) (pc := 11) dX7_refuse_11 rfl pf_7_37 rfl s0_70 rfl rfl ?_
                refine fr_imul (z := w32 (8 * (gI M9 70 3))) (pc := 14) dX7_refuse_14 rfl ?_
                refine fr_iload_n (pc := 15) dX7_refuse_15 rfl rfl ?_
                refine fr_iadd (z := w32 ((w32 (8 * (gI M9 70 3))) + 2)) (pc := 16) dX7_refuse_16 rfl ?_
                refine fr_put (a := 70) (i := 6) (pc := 17) dX7_refuse_17 rfl pf_7_31 rfl s0_70 rfl rfl nf_70_6 rfl ?_
                refine fr_aload_n (pc := 20) dX7_refuse_20 rfl rfl ?_
                refine fr_iconst (pc := 21) dX7_refuse_21 (by decide) ?_
                refine fr_put (a := 70) (i := 4) (pc := 22) dX7_refuse_22 rfl pf_7_40 rfl s0_70 rfl rfl nf_70_4 rfl ?_
                refine fr_vret (pc := 25) dX7_refuse_25 rfl ?_
                refine fr_goto (tg := 206) (pc := 50) dX4_readPart_50 rfl ?_
                exact fr_vret (pc := 206) dX4_readPart_206 rfl hq
              · refine fr_vret (pc := 25) dX7_refuse_25 rfl ?_
                refine fr_goto (tg := 206) (pc := 50) dX4_readPart_50 rfl ?_
                exact fr_vret (pc := 206) dX4_readPart_206 rfl hq
        · refine fr_iconst (pc := 20) dX7_isSign_20 (by decide) ?_
          refine fr_iret (pc := 21) dX7_isSign_21 (Or.inr (Or.inl ⟨rfl, Or.inl rfl⟩)) ?_
          refine fr_istore_n (ls2 := [(2, 71), (0, a1), (0, 1), (0, 0), (9, 0)]) (pc := 18) dX4_readPart_18 rfl (Nat.le_of_ble_eq_true rfl) rfl ?_
          refine fr_aload_n (pc := 19) dX4_readPart_19 rfl rfl ?_
          refine fr_getr (a := 71) (pc := 20) dX4_readPart_20 rfl pf_4_9 s0_71 rfl rf_71_0 ?_
          refine fr_inVI (a := 70) (as := []) (rest := []) (ls' := [(2, 70)]) (c1 := 0) (c2 := 0) (pc := 23) dX4_readPart_23 pl_4_57 rfl ⟨Nat.le_of_ble_eq_true rfl, Nat.le_of_ble_eq_true rfl⟩ rfl rfl rfl s0_70 (Nat.le_of_ble_eq_true rfl) (by omega) rfl rfl (pm_zc _) (hq sc _ (by omega)) (fun r14 M13 hq => ?_)
          refine fr_istore (ls2 := [(2, 71), (0, a1), (0, 1), (0, 0), (0, r14)]) (pc := 26) dX4_readPart_26 rfl (Nat.le_of_ble_eq_true rfl) rfl ?_
          refine fr_iload_n (pc := 28) dX4_readPart_28 rfl rfl ?_
          refine fr_ifcT (tg := 36) (pc := 29) dX4_readPart_29 rfl rfl ?_
          refine fr_iload_n (pc := 36) dX4_readPart_36 rfl rfl ?_
          refine fr_bipush (pc := 37) dX4_readPart_37 (by decide) ?_
          refine fr_icm_lt (tg := 53) (pc := 39) dX4_readPart_39 rfl hq (fun hc15 hq => ?_) (fun hc15 hq => ?_)
          · exact hq sc d hd
          · refine fr_aload_n (pc := 42) dX4_readPart_42 rfl rfl ?_
            refine fr_getr (a := 71) (pc := 43) dX4_readPart_43 rfl pf_4_9 s0_71 rfl rf_71_0 ?_
            refine fr_iconst (pc := 46) dX4_readPart_46 (by decide) ?_
            refine fr_inVV (a := 70) (as := [(0, 2)]) (rest := []) (ls' := [(2, 70), (0, 2)]) (c1 := 0) (c2 := 0) (pc := 47) dX4_readPart_47 pl_4_54 rfl ⟨Nat.le_of_ble_eq_true rfl, Nat.le_of_ble_eq_true rfl⟩ rfl rfl rfl s0_70 (Nat.le_of_ble_eq_true rfl) (by omega) rfl rfl (pm_zc _) ?_ (fun M' h => h)
            refine fr_aload_n (pc := 0) dX7_refuse_0 rfl rfl ?_
            refine fr_getf (a := 70) (i := 6) (v := gI M13 70 6) (t := 0) (pc := 1) dX7_refuse_1 rfl pf_7_31 rfl s0_70 rfl rfl ?_
            refine fr_ifc_ne (tg := 25) (pc := 4) dX7_refuse_4 rfl hq (fun hc16 hq => ?_) (fun hc16 hq => ?_)
            · refine fr_aload_n (pc := 7) dX7_refuse_7 rfl rfl ?_
              refine fr_bipush (pc := 8) dX7_refuse_8 (by decide) ?_
              refine fr_aload_n (pc := 10) dX7_refuse_10 rfl rfl ?_
              refine fr_getf (a := 70) (i := 3) (v := gI M13 70 3) (t := 0) (pc := 11) dX7_refuse_11 rfl pf_7_37 rfl s0_70 rfl rfl ?_
              refine fr_imul (z := w32 (8 * (gI M13 70 3))) (pc := 14) dX7_refuse_14 rfl ?_
              refine fr_iload_n (pc := 15) dX7_refuse_15 rfl rfl ?_
              refine fr_iadd (z := w32 ((w32 (8 * (gI M13 70 3))) + 2)) (pc := 16) dX7_refuse_16 rfl ?_
              refine fr_put (a := 70) (i := 6) (pc := 17) dX7_refuse_17 rfl pf_7_31 rfl s0_70 rfl rfl nf_70_6 rfl ?_
              refine fr_aload_n (pc := 20) dX7_refuse_20 rfl rfl ?_
              refine fr_iconst (pc := 21) dX7_refuse_21 (by decide) ?_
              refine fr_put (a := 70) (i := 4) (pc := 22) dX7_refuse_22 rfl pf_7_40 rfl s0_70 rfl rfl nf_70_4 rfl ?_
              refine fr_vret (pc := 25) dX7_refuse_25 rfl ?_
              refine fr_goto (tg := 206) (pc := 50) dX4_readPart_50 rfl ?_
              exact fr_vret (pc := 206) dX4_readPart_206 rfl hq
            · refine fr_vret (pc := 25) dX7_refuse_25 rfl ?_
              refine fr_goto (tg := 206) (pc := 50) dX4_readPart_50 rfl ?_
              exact fr_vret (pc := 206) dX4_readPart_206 rfl hq
      · refine fr_iconst (pc := 20) dX7_isMark_20 (by decide) ?_
        refine fr_iret (pc := 21) dX7_isMark_21 (Or.inr (Or.inl ⟨rfl, Or.inl rfl⟩)) ?_
        refine fr_istore_n (ls2 := [(2, 71), (0, a1), (0, 0), (9, 0), (9, 0)]) (pc := 9) dX4_readPart_9 rfl (Nat.le_of_ble_eq_true rfl) rfl ?_
        refine fr_aload_n (pc := 10) dX4_readPart_10 rfl rfl ?_
        refine fr_getr (a := 71) (pc := 11) dX4_readPart_11 rfl pf_4_9 s0_71 rfl rf_71_0 ?_
        refine fr_iconst (pc := 14) dX4_readPart_14 (by decide) ?_
        refine fr_inVI (a := 70) (as := [(0, 1)]) (rest := []) (ls' := [(2, 70), (0, 1)]) (c1 := 0) (c2 := 0) (pc := 15) dX4_readPart_15 pl_4_107 rfl ⟨Nat.le_of_ble_eq_true rfl, Nat.le_of_ble_eq_true rfl⟩ rfl rfl rfl s0_70 (Nat.le_of_ble_eq_true rfl) (by omega) rfl rfl (pm_zc _) ?_ (fun y M' h => h)
        refine fr_aload_n (pc := 0) dX7_isSign_0 rfl rfl ?_
        refine fr_getf (a := 70) (i := 4) (v := gI M 70 4) (t := 0) (pc := 1) dX7_isSign_1 rfl pf_7_40 rfl s0_70 rfl rfl ?_
        refine fr_iconst (pc := 4) dX7_isSign_4 (by decide) ?_
        refine fr_icm_ne (tg := 20) (pc := 5) dX7_isSign_5 rfl hq (fun hc17 hq => ?_) (fun hc17 hq => ?_)
        · refine fr_aload_n (pc := 8) dX7_isSign_8 rfl rfl ?_
          refine fr_getf (a := 70) (i := 5) (v := gI M 70 5) (t := 0) (pc := 9) dX7_isSign_9 rfl pf_7_43 rfl s0_70 rfl rfl ?_
          refine fr_iload_n (pc := 12) dX7_isSign_12 rfl rfl ?_
          refine fr_icm_ne (tg := 20) (pc := 13) dX7_isSign_13 rfl hq (fun hc18 hq => ?_) (fun hc18 hq => ?_)
          · refine fr_iconst (pc := 16) dX7_isSign_16 (by decide) ?_
            refine fr_goto (tg := 21) (pc := 17) dX7_isSign_17 rfl ?_
            refine fr_iret (pc := 21) dX7_isSign_21 (Or.inr (Or.inl ⟨rfl, Or.inr rfl⟩)) ?_
            refine fr_istore_n (ls2 := [(2, 71), (0, a1), (0, 0), (0, 1), (9, 0)]) (pc := 18) dX4_readPart_18 rfl (Nat.le_of_ble_eq_true rfl) rfl ?_
            refine fr_aload_n (pc := 19) dX4_readPart_19 rfl rfl ?_
            refine fr_getr (a := 71) (pc := 20) dX4_readPart_20 rfl pf_4_9 s0_71 rfl rf_71_0 ?_
            refine fr_inVI (a := 70) (as := []) (rest := []) (ls' := [(2, 70)]) (c1 := 0) (c2 := 0) (pc := 23) dX4_readPart_23 pl_4_57 rfl ⟨Nat.le_of_ble_eq_true rfl, Nat.le_of_ble_eq_true rfl⟩ rfl rfl rfl s0_70 (Nat.le_of_ble_eq_true rfl) (by omega) rfl rfl (pm_zc _) (hq sc _ (by omega)) (fun r20 M19 hq => ?_)
            refine fr_istore (ls2 := [(2, 71), (0, a1), (0, 0), (0, 1), (0, r20)]) (pc := 26) dX4_readPart_26 rfl (Nat.le_of_ble_eq_true rfl) rfl ?_
            refine fr_iload_n (pc := 28) dX4_readPart_28 rfl rfl ?_
            refine fr_ifcF (tg := 36) (pc := 29) dX4_readPart_29 rfl rfl ?_
            refine fr_iload_n (pc := 32) dX4_readPart_32 rfl rfl ?_
            refine fr_ifcF (tg := 53) (pc := 33) dX4_readPart_33 rfl rfl ?_
            refine fr_iload_n (pc := 36) dX4_readPart_36 rfl rfl ?_
            refine fr_bipush (pc := 37) dX4_readPart_37 (by decide) ?_
            refine fr_icm_lt (tg := 53) (pc := 39) dX4_readPart_39 rfl hq (fun hc21 hq => ?_) (fun hc21 hq => ?_)
            · exact hq sc d hd
            · refine fr_aload_n (pc := 42) dX4_readPart_42 rfl rfl ?_
              refine fr_getr (a := 71) (pc := 43) dX4_readPart_43 rfl pf_4_9 s0_71 rfl rf_71_0 ?_
              refine fr_iconst (pc := 46) dX4_readPart_46 (by decide) ?_
              refine fr_inVV (a := 70) (as := [(0, 2)]) (rest := []) (ls' := [(2, 70), (0, 2)]) (c1 := 0) (c2 := 0) (pc := 47) dX4_readPart_47 pl_4_54 rfl ⟨Nat.le_of_ble_eq_true rfl, Nat.le_of_ble_eq_true rfl⟩ rfl rfl rfl s0_70 (Nat.le_of_ble_eq_true rfl) (by omega) rfl rfl (pm_zc _) ?_ (fun M' h => h)
              refine fr_aload_n (pc := 0) dX7_refuse_0 rfl rfl ?_
              refine fr_getf (a := 70) (i := 6) (v := gI M19 70 6) (t := 0) (pc := 1) dX7_refuse_1 rfl pf_7_31 rfl s0_70 rfl rfl ?_
              refine fr_ifc_ne (tg := 25) (pc := 4) dX7_refuse_4 rfl hq (fun hc22 hq => ?_) (fun hc22 hq => ?_)
              · refine fr_aload_n (pc := 7) dX7_refuse_7 rfl rfl ?_
                refine fr_bipush (pc := 8) dX7_refuse_8 (by decide) ?_
                refine fr_aload_n (pc := 10) dX7_refuse_10 rfl rfl ?_
                refine fr_getf (a := 70) (i := 3) (v := gI M19 70 3) (t := 0) (pc := 11) dX7_refuse_11 rfl pf_7_37 rfl s0_70 rfl rfl ?_
                refine fr_imul (z := w32 (8 * (gI M19 70 3))) (pc := 14) dX7_refuse_14 rfl ?_
                refine fr_iload_n (pc := 15) dX7_refuse_15 rfl rfl ?_
                refine fr_iadd (z := w32 ((w32 (8 * (gI M19 70 3))) + 2)) (pc := 16) dX7_refuse_16 rfl ?_
                refine fr_put (a := 70) (i := 6) (pc := 17) dX7_refuse_17 rfl pf_7_31 rfl s0_70 rfl rfl nf_70_6 rfl ?_
                refine fr_aload_n (pc := 20) dX7_refuse_20 rfl rfl ?_
                refine fr_iconst (pc := 21) dX7_refuse_21 (by decide) ?_
                refine fr_put (a := 70) (i := 4) (pc := 22) dX7_refuse_22 rfl pf_7_40 rfl s0_70 rfl rfl nf_70_4 rfl ?_
                refine fr_vret (pc := 25) dX7_refuse_25 rfl ?_
                refine fr_goto (tg := 206) (pc := 50) dX4_readPart_50 rfl ?_
                exact fr_vret (pc := 206) dX4_readPart_206 rfl hq
              · refine fr_vret (pc := 25) dX7_refuse_25 rfl ?_
                refine fr_goto (tg := 206) (pc := 50) dX4_readPart_50 rfl ?_
                exact fr_vret (pc := 206) dX4_readPart_206 rfl hq
          · refine fr_iconst (pc := 20) dX7_isSign_20 (by decide) ?_
            refine fr_iret (pc := 21) dX7_isSign_21 (Or.inr (Or.inl ⟨rfl, Or.inl rfl⟩)) ?_
            refine fr_istore_n (ls2 := [(2, 71), (0, a1), (0, 0), (0, 0), (9, 0)]) (pc := 18) dX4_readPart_18 rfl (Nat.le_of_ble_eq_true rfl) rfl ?_
            refine fr_aload_n (pc := 19) dX4_readPart_19 rfl rfl ?_
            refine fr_getr (a := 71) (pc := 20) dX4_readPart_20 rfl pf_4_9 s0_71 rfl rf_71_0 ?_
            refine fr_inVI (a := 70) (as := []) (rest := []) (ls' := [(2, 70)]) (c1 := 0) (c2 := 0) (pc := 23) dX4_readPart_23 pl_4_57 rfl ⟨Nat.le_of_ble_eq_true rfl, Nat.le_of_ble_eq_true rfl⟩ rfl rfl rfl s0_70 (Nat.le_of_ble_eq_true rfl) (by omega) rfl rfl (pm_zc _) (hq sc _ (by omega)) (fun r24 M23 hq => ?_)
            refine fr_istore (ls2 := [(2, 71), (0, a1), (0, 0), (0, 0), (0, r24)]) (pc := 26) dX4_readPart_26 rfl (Nat.le_of_ble_eq_true rfl) rfl ?_
            refine fr_iload_n (pc := 28) dX4_readPart_28 rfl rfl ?_
            refine fr_ifcF (tg := 36) (pc := 29) dX4_readPart_29 rfl rfl ?_
            refine fr_iload_n (pc := 32) dX4_readPart_32 rfl rfl ?_
            refine fr_ifcT (tg := 53) (pc := 33) dX4_readPart_33 rfl rfl ?_
            exact hq sc d hd
        · refine fr_iconst (pc := 20) dX7_isSign_20 (by decide) ?_
          refine fr_iret (pc := 21) dX7_isSign_21 (Or.inr (Or.inl ⟨rfl, Or.inl rfl⟩)) ?_
          refine fr_istore_n (ls2 := [(2, 71), (0, a1), (0, 0), (0, 0), (9, 0)]) (pc := 18) dX4_readPart_18 rfl (Nat.le_of_ble_eq_true rfl) rfl ?_
          refine fr_aload_n (pc := 19) dX4_readPart_19 rfl rfl ?_
          refine fr_getr (a := 71) (pc := 20) dX4_readPart_20 rfl pf_4_9 s0_71 rfl rf_71_0 ?_
          refine fr_inVI (a := 70) (as := []) (rest := []) (ls' := [(2, 70)]) (c1 := 0) (c2 := 0) (pc := 23) dX4_readPart_23 pl_4_57 rfl ⟨Nat.le_of_ble_eq_true rfl, Nat.le_of_ble_eq_true rfl⟩ rfl rfl rfl s0_70 (Nat.le_of_ble_eq_true rfl) (by omega) rfl rfl (pm_zc _) (hq sc _ (by omega)) (fun r26 M25 hq => ?_)
          refine fr_istore (ls2 := [(2, 71), (0, a1), (0, 0), (0, 0), (0, r26)]) (pc := 26) dX4_readPart_26 rfl (Nat.le_of_ble_eq_true rfl) rfl ?_
          refine fr_iload_n (pc := 28) dX4_readPart_28 rfl rfl ?_
          refine fr_ifcF (tg := 36) (pc := 29) dX4_readPart_29 rfl rfl ?_
          refine fr_iload_n (pc := 32) dX4_readPart_32 rfl rfl ?_
          refine fr_ifcT (tg := 53) (pc := 33) dX4_readPart_33 rfl rfl ?_
          exact hq sc d hd
    · refine fr_iconst (pc := 20) dX7_isMark_20 (by decide) ?_
      refine fr_iret (pc := 21) dX7_isMark_21 (Or.inr (Or.inl ⟨rfl, Or.inl rfl⟩)) ?_
      refine fr_istore_n (ls2 := [(2, 71), (0, a1), (0, 0), (9, 0), (9, 0)]) (pc := 9) dX4_readPart_9 rfl (Nat.le_of_ble_eq_true rfl) rfl ?_
      refine fr_aload_n (pc := 10) dX4_readPart_10 rfl rfl ?_
      refine fr_getr (a := 71) (pc := 11) dX4_readPart_11 rfl pf_4_9 s0_71 rfl rf_71_0 ?_
      refine fr_iconst (pc := 14) dX4_readPart_14 (by decide) ?_
      refine fr_inVI (a := 70) (as := [(0, 1)]) (rest := []) (ls' := [(2, 70), (0, 1)]) (c1 := 0) (c2 := 0) (pc := 15) dX4_readPart_15 pl_4_107 rfl ⟨Nat.le_of_ble_eq_true rfl, Nat.le_of_ble_eq_true rfl⟩ rfl rfl rfl s0_70 (Nat.le_of_ble_eq_true rfl) (by omega) rfl rfl (pm_zc _) ?_ (fun y M' h => h)
      refine fr_aload_n (pc := 0) dX7_isSign_0 rfl rfl ?_
      refine fr_getf (a := 70) (i := 4) (v := gI M 70 4) (t := 0) (pc := 1) dX7_isSign_1 rfl pf_7_40 rfl s0_70 rfl rfl ?_
      refine fr_iconst (pc := 4) dX7_isSign_4 (by decide) ?_
      refine fr_icm_ne (tg := 20) (pc := 5) dX7_isSign_5 rfl hq (fun hc27 hq => ?_) (fun hc27 hq => ?_)
      · refine fr_aload_n (pc := 8) dX7_isSign_8 rfl rfl ?_
        refine fr_getf (a := 70) (i := 5) (v := gI M 70 5) (t := 0) (pc := 9) dX7_isSign_9 rfl pf_7_43 rfl s0_70 rfl rfl ?_
        refine fr_iload_n (pc := 12) dX7_isSign_12 rfl rfl ?_
        refine fr_icm_ne (tg := 20) (pc := 13) dX7_isSign_13 rfl hq (fun hc28 hq => ?_) (fun hc28 hq => ?_)
        · refine fr_iconst (pc := 16) dX7_isSign_16 (by decide) ?_
          refine fr_goto (tg := 21) (pc := 17) dX7_isSign_17 rfl ?_
          refine fr_iret (pc := 21) dX7_isSign_21 (Or.inr (Or.inl ⟨rfl, Or.inr rfl⟩)) ?_
          refine fr_istore_n (ls2 := [(2, 71), (0, a1), (0, 0), (0, 1), (9, 0)]) (pc := 18) dX4_readPart_18 rfl (Nat.le_of_ble_eq_true rfl) rfl ?_
          refine fr_aload_n (pc := 19) dX4_readPart_19 rfl rfl ?_
          refine fr_getr (a := 71) (pc := 20) dX4_readPart_20 rfl pf_4_9 s0_71 rfl rf_71_0 ?_
          refine fr_inVI (a := 70) (as := []) (rest := []) (ls' := [(2, 70)]) (c1 := 0) (c2 := 0) (pc := 23) dX4_readPart_23 pl_4_57 rfl ⟨Nat.le_of_ble_eq_true rfl, Nat.le_of_ble_eq_true rfl⟩ rfl rfl rfl s0_70 (Nat.le_of_ble_eq_true rfl) (by omega) rfl rfl (pm_zc _) (hq sc _ (by omega)) (fun r30 M29 hq => ?_)
          refine fr_istore (ls2 := [(2, 71), (0, a1), (0, 0), (0, 1), (0, r30)]) (pc := 26) dX4_readPart_26 rfl (Nat.le_of_ble_eq_true rfl) rfl ?_
          refine fr_iload_n (pc := 28) dX4_readPart_28 rfl rfl ?_
          refine fr_ifcF (tg := 36) (pc := 29) dX4_readPart_29 rfl rfl ?_
          refine fr_iload_n (pc := 32) dX4_readPart_32 rfl rfl ?_
          refine fr_ifcF (tg := 53) (pc := 33) dX4_readPart_33 rfl rfl ?_
          refine fr_iload_n (pc := 36) dX4_readPart_36 rfl rfl ?_
          refine fr_bipush (pc := 37) dX4_readPart_37 (by decide) ?_
          refine fr_icm_lt (tg := 53) (pc := 39) dX4_readPart_39 rfl hq (fun hc31 hq => ?_) (fun hc31 hq => ?_)
          · exact hq sc d hd
          · refine fr_aload_n (pc := 42) dX4_readPart_42 rfl rfl ?_
            refine fr_getr (a := 71) (pc := 43) dX4_readPart_43 rfl pf_4_9 s0_71 rfl rf_71_0 ?_
            refine fr_iconst (pc := 46) dX4_readPart_46 (by decide) ?_
            refine fr_inVV (a := 70) (as := [(0, 2)]) (rest := []) (ls' := [(2, 70), (0, 2)]) (c1 := 0) (c2 := 0) (pc := 47) dX4_readPart_47 pl_4_54 rfl ⟨Nat.le_of_ble_eq_true rfl, Nat.le_of_ble_eq_true rfl⟩ rfl rfl rfl s0_70 (Nat.le_of_ble_eq_true rfl) (by omega) rfl rfl (pm_zc _) ?_ (fun M' h => h)
            refine fr_aload_n (pc := 0) dX7_refuse_0 rfl rfl ?_
            refine fr_getf (a := 70) (i := 6) (v := gI M29 70 6) (t := 0) (pc := 1) dX7_refuse_1 rfl pf_7_31 rfl s0_70 rfl rfl ?_
            refine fr_ifc_ne (tg := 25) (pc := 4) dX7_refuse_4 rfl hq (fun hc32 hq => ?_) (fun hc32 hq => ?_)
            · refine fr_aload_n (pc := 7) dX7_refuse_7 rfl rfl ?_
              refine fr_bipush (pc := 8) dX7_refuse_8 (by decide) ?_
              refine fr_aload_n (pc := 10) dX7_refuse_10 rfl rfl ?_
              refine fr_getf (a := 70) (i := 3) (v := gI M29 70 3) (t := 0) (pc := 11) dX7_refuse_11 rfl pf_7_37 rfl s0_70 rfl rfl ?_
              refine fr_imul (z := w32 (8 * (gI M29 70 3))) (pc := 14) dX7_refuse_14 rfl ?_
              refine fr_iload_n (pc := 15) dX7_refuse_15 rfl rfl ?_
              refine fr_iadd (z := w32 ((w32 (8 * (gI M29 70 3))) + 2)) (pc := 16) dX7_refuse_16 rfl ?_
              refine fr_put (a := 70) (i := 6) (pc := 17) dX7_refuse_17 rfl pf_7_31 rfl s0_70 rfl rfl nf_70_6 rfl ?_
              refine fr_aload_n (pc := 20) dX7_refuse_20 rfl rfl ?_
              refine fr_iconst (pc := 21) dX7_refuse_21 (by decide) ?_
              refine fr_put (a := 70) (i := 4) (pc := 22) dX7_refuse_22 rfl pf_7_40 rfl s0_70 rfl rfl nf_70_4 rfl ?_
              refine fr_vret (pc := 25) dX7_refuse_25 rfl ?_
              refine fr_goto (tg := 206) (pc := 50) dX4_readPart_50 rfl ?_
              exact fr_vret (pc := 206) dX4_readPart_206 rfl hq
            · refine fr_vret (pc := 25) dX7_refuse_25 rfl ?_
              refine fr_goto (tg := 206) (pc := 50) dX4_readPart_50 rfl ?_
              exact fr_vret (pc := 206) dX4_readPart_206 rfl hq
        · refine fr_iconst (pc := 20) dX7_isSign_20 (by decide) ?_
          refine fr_iret (pc := 21) dX7_isSign_21 (Or.inr (Or.inl ⟨rfl, Or.inl rfl⟩)) ?_
          refine fr_istore_n (ls2 := [(2, 71), (0, a1), (0, 0), (0, 0), (9, 0)]) (pc := 18) dX4_readPart_18 rfl (Nat.le_of_ble_eq_true rfl) rfl ?_
          refine fr_aload_n (pc := 19) dX4_readPart_19 rfl rfl ?_
          refine fr_getr (a := 71) (pc := 20) dX4_readPart_20 rfl pf_4_9 s0_71 rfl rf_71_0 ?_
          refine fr_inVI (a := 70) (as := []) (rest := []) (ls' := [(2, 70)]) (c1 := 0) (c2 := 0) (pc := 23) dX4_readPart_23 pl_4_57 rfl ⟨Nat.le_of_ble_eq_true rfl, Nat.le_of_ble_eq_true rfl⟩ rfl rfl rfl s0_70 (Nat.le_of_ble_eq_true rfl) (by omega) rfl rfl (pm_zc _) (hq sc _ (by omega)) (fun r34 M33 hq => ?_)
          refine fr_istore (ls2 := [(2, 71), (0, a1), (0, 0), (0, 0), (0, r34)]) (pc := 26) dX4_readPart_26 rfl (Nat.le_of_ble_eq_true rfl) rfl ?_
          refine fr_iload_n (pc := 28) dX4_readPart_28 rfl rfl ?_
          refine fr_ifcF (tg := 36) (pc := 29) dX4_readPart_29 rfl rfl ?_
          refine fr_iload_n (pc := 32) dX4_readPart_32 rfl rfl ?_
          refine fr_ifcT (tg := 53) (pc := 33) dX4_readPart_33 rfl rfl ?_
          exact hq sc d hd
      · refine fr_iconst (pc := 20) dX7_isSign_20 (by decide) ?_
        refine fr_iret (pc := 21) dX7_isSign_21 (Or.inr (Or.inl ⟨rfl, Or.inl rfl⟩)) ?_
        refine fr_istore_n (ls2 := [(2, 71), (0, a1), (0, 0), (0, 0), (9, 0)]) (pc := 18) dX4_readPart_18 rfl (Nat.le_of_ble_eq_true rfl) rfl ?_
        refine fr_aload_n (pc := 19) dX4_readPart_19 rfl rfl ?_
        refine fr_getr (a := 71) (pc := 20) dX4_readPart_20 rfl pf_4_9 s0_71 rfl rf_71_0 ?_
        refine fr_inVI (a := 70) (as := []) (rest := []) (ls' := [(2, 70)]) (c1 := 0) (c2 := 0) (pc := 23) dX4_readPart_23 pl_4_57 rfl ⟨Nat.le_of_ble_eq_true rfl, Nat.le_of_ble_eq_true rfl⟩ rfl rfl rfl s0_70 (Nat.le_of_ble_eq_true rfl) (by omega) rfl rfl (pm_zc _) (hq sc _ (by omega)) (fun r36 M35 hq => ?_)
        refine fr_istore (ls2 := [(2, 71), (0, a1), (0, 0), (0, 0), (0, r36)]) (pc := 26) dX4_readPart_26 rfl (Nat.le_of_ble_eq_true rfl) rfl ?_
        refine fr_iload_n (pc := 28) dX4_readPart_28 rfl rfl ?_
        refine fr_ifcF (tg := 36) (pc := 29) dX4_readPart_29 rfl rfl ?_
        refine fr_iload_n (pc := 32) dX4_readPart_32 rfl rfl ?_
        refine fr_ifcT (tg := 53) (pc := 33) dX4_readPart_33 rfl rfl ?_
        exact hq sc d hd
theorem k4_readPart_53_r {h : Nat} {o : Nat} {l1 l2 l3 l4 : Int} {M : pm_M} {K : pm_M → Prop} (ho : o = 2 ∨ o = 36) (hh : 26 ≤ h) (hq : (if l2 = 0 then (if l3 = 0 then (if gI M 70 4 = 3 then (gI M 71 1 = (o : Int) ∧ k0_insert o (gI M o 15) 4 (gI M 70 5) M (fun M5 => k7_advance M5 (fun M7 => K M7))) else (if l4 = (-1) then (if gI M 70 6 = 0 then K (upI (upI M 70 6 (w32 ((w32 (8 * (gI M 70 3))) + 1))) 70 4 1) else K M) else (gI M 71 1 = (o : Int) ∧ k0_insert o (gI M o 15) 5 l4 M (fun M12 => k7_advance M12 (fun M14 => K M14))))) else (gI M 71 1 = (o : Int) ∧ k0_insert o (gI M o 15) 6 0 M (fun M17 => k7_advance M17 (fun M19 => k4_readPart (h - 1) o (w32 (l1 + 1)) M19 (fun M21 => K M21))))) else k7_advance M (fun M23 => k4_readSides (h - 1) o 0 (w32 (l1 + 1)) M23 (fun M25 => k7_expectMark 41 M25 (fun M27 => K M27))))) : k4_readPart_53 h o l1 l2 l3 l4 M K := by
  intro sc d hd
  rcases ho with rfl | rfl
  · refine fr_iload_n (pc := 53) dX4_readPart_53 rfl rfl ?_
    refine fr_ifc_eq (tg := 84) (pc := 54) dX4_readPart_54 rfl hq (fun hc1 hq => ?_) (fun hc1 hq => ?_)
    · refine fr_iload_n (pc := 84) dX4_readPart_84 rfl rfl ?_
      refine fr_ifc_eq (tg := 122) (pc := 85) dX4_readPart_85 rfl hq (fun hc2 hq => ?_) (fun hc2 hq => ?_)
      · refine fr_aload_n (pc := 122) dX4_readPart_122 rfl rfl ?_
        refine fr_getr (a := 71) (pc := 123) dX4_readPart_123 rfl pf_4_9 s0_71 rfl rf_71_0 ?_
        refine fr_getf (a := 70) (i := 4) (v := gI M 70 4) (t := 0) (pc := 126) dX4_readPart_126 rfl pf_4_38 rfl s0_70 rfl rfl ?_
        refine fr_iconst (pc := 129) dX4_readPart_129 (by decide) ?_
        refine fr_icm_ne (tg := 165) (pc := 130) dX4_readPart_130 rfl hq (fun hc3 hq => ?_) (fun hc3 hq => ?_)
        · refine fr_aload_n (pc := 133) dX4_readPart_133 rfl rfl ?_
          obtain ⟨ho4, hq⟩ := hq
          refine fr_getf (a := 71) (i := 1) (v := 2) (t := 2) (pc := 134) dX4_readPart_134 rfl pf_4_15 rfl s0_71 rfl ho4 ?_
          refine fr_aload_n (pc := 137) dX4_readPart_137 rfl rfl ?_
          refine fr_getf (a := 71) (i := 1) (v := 2) (t := 2) (pc := 138) dX4_readPart_138 rfl pf_4_15 rfl s0_71 rfl ho4 ?_
          refine fr_getf (a := 2) (i := 15) (v := gI M 2 15) (t := 0) (pc := 141) dX4_readPart_141 rfl pf_4_41 rfl s0_2 rfl rfl ?_
          refine fr_iconst (pc := 144) dX4_readPart_144 (by decide) ?_
          refine fr_aload_n (pc := 145) dX4_readPart_145 rfl rfl ?_
          refine fr_getr (a := 71) (pc := 146) dX4_readPart_146 rfl pf_4_9 s0_71 rfl rf_71_0 ?_
          refine fr_getf (a := 70) (i := 5) (v := gI M 70 5) (t := 0) (pc := 149) dX4_readPart_149 rfl pf_4_97 rfl s0_70 rfl rfl ?_
          refine fr_inVV (a := 2) (as := [(0, gI M 2 15), (0, 4), (0, gI M 70 5)]) (rest := []) (ls' := [(2, 2), (0, gI M 2 15), (0, 4), (0, gI M 70 5)]) (c1 := 0) (c2 := 0) (pc := 152) dX4_readPart_152 pl_4_104 rfl ⟨Nat.le_of_ble_eq_true rfl, Nat.le_of_ble_eq_true rfl⟩ rfl rfl rfl s0_2 (Nat.le_of_ble_eq_true rfl) (by omega) rfl rfl (pm_zc _) (hq sc _ (by omega)) (fun M5 hq => ?_)
          refine fr_aload_n (pc := 155) dX4_readPart_155 rfl rfl ?_
          refine fr_getr (a := 71) (pc := 156) dX4_readPart_156 rfl pf_4_9 s0_71 rfl rf_71_0 ?_
          refine fr_inVV (a := 70) (as := []) (rest := []) (ls' := [(2, 70), (9, 0)]) (c1 := 0) (c2 := 0) (pc := 159) dX4_readPart_159 pl_4_64 rfl ⟨Nat.le_of_ble_eq_true rfl, Nat.le_of_ble_eq_true rfl⟩ rfl rfl rfl s0_70 (Nat.le_of_ble_eq_true rfl) (by omega) rfl rfl (pm_zc _) (hq sc _ (by omega)) (fun M7 hq => ?_)
          refine fr_goto (tg := 206) (pc := 162) dX4_readPart_162 rfl ?_
          exact fr_vret (pc := 206) dX4_readPart_206 rfl hq
        · refine fr_iload (pc := 165) dX4_readPart_165 rfl rfl ?_
          refine fr_iconst (pc := 167) dX4_readPart_167 (by decide) ?_
          refine fr_icm_eq (tg := 198) (pc := 168) dX4_readPart_168 rfl hq (fun hc9 hq => ?_) (fun hc9 hq => ?_)
          · refine fr_aload_n (pc := 198) dX4_readPart_198 rfl rfl ?_
            refine fr_getr (a := 71) (pc := 199) dX4_readPart_199 rfl pf_4_9 s0_71 rfl rf_71_0 ?_
            refine fr_iconst (pc := 202) dX4_readPart_202 (by decide) ?_
            refine fr_inVV (a := 70) (as := [(0, 1)]) (rest := []) (ls' := [(2, 70), (0, 1)]) (c1 := 0) (c2 := 0) (pc := 203) dX4_readPart_203 pl_4_54 rfl ⟨Nat.le_of_ble_eq_true rfl, Nat.le_of_ble_eq_true rfl⟩ rfl rfl rfl s0_70 (Nat.le_of_ble_eq_true rfl) (by omega) rfl rfl (pm_zc _) ?_ (fun M' h => h)
            refine fr_aload_n (pc := 0) dX7_refuse_0 rfl rfl ?_
            refine fr_getf (a := 70) (i := 6) (v := gI M 70 6) (t := 0) (pc := 1) dX7_refuse_1 rfl pf_7_31 rfl s0_70 rfl rfl ?_
            refine fr_ifc_ne (tg := 25) (pc := 4) dX7_refuse_4 rfl hq (fun hc10 hq => ?_) (fun hc10 hq => ?_)
            · refine fr_aload_n (pc := 7) dX7_refuse_7 rfl rfl ?_
              refine fr_bipush (pc := 8) dX7_refuse_8 (by decide) ?_
              refine fr_aload_n (pc := 10) dX7_refuse_10 rfl rfl ?_
              refine fr_getf (a := 70) (i := 3) (v := gI M 70 3) (t := 0) (pc := 11) dX7_refuse_11 rfl pf_7_37 rfl s0_70 rfl rfl ?_
              refine fr_imul (z := w32 (8 * (gI M 70 3))) (pc := 14) dX7_refuse_14 rfl ?_
              refine fr_iload_n (pc := 15) dX7_refuse_15 rfl rfl ?_
              refine fr_iadd (z := w32 ((w32 (8 * (gI M 70 3))) + 1)) (pc := 16) dX7_refuse_16 rfl ?_
              refine fr_put (a := 70) (i := 6) (pc := 17) dX7_refuse_17 rfl pf_7_31 rfl s0_70 rfl rfl nf_70_6 rfl ?_
              refine fr_aload_n (pc := 20) dX7_refuse_20 rfl rfl ?_
              refine fr_iconst (pc := 21) dX7_refuse_21 (by decide) ?_
              refine fr_put (a := 70) (i := 4) (pc := 22) dX7_refuse_22 rfl pf_7_40 rfl s0_70 rfl rfl nf_70_4 rfl ?_
              refine fr_vret (pc := 25) dX7_refuse_25 rfl ?_
              exact fr_vret (pc := 206) dX4_readPart_206 rfl hq
            · refine fr_vret (pc := 25) dX7_refuse_25 rfl ?_
              exact fr_vret (pc := 206) dX4_readPart_206 rfl hq
          · refine fr_aload_n (pc := 171) dX4_readPart_171 rfl rfl ?_
            obtain ⟨ho11, hq⟩ := hq
            refine fr_getf (a := 71) (i := 1) (v := 2) (t := 2) (pc := 172) dX4_readPart_172 rfl pf_4_15 rfl s0_71 rfl ho11 ?_
            refine fr_aload_n (pc := 175) dX4_readPart_175 rfl rfl ?_
            refine fr_getf (a := 71) (i := 1) (v := 2) (t := 2) (pc := 176) dX4_readPart_176 rfl pf_4_15 rfl s0_71 rfl ho11 ?_
            refine fr_getf (a := 2) (i := 15) (v := gI M 2 15) (t := 0) (pc := 179) dX4_readPart_179 rfl pf_4_41 rfl s0_2 rfl rfl ?_
            refine fr_iconst (pc := 182) dX4_readPart_182 (by decide) ?_
            refine fr_iload (pc := 183) dX4_readPart_183 rfl rfl ?_
            refine fr_inVV (a := 2) (as := [(0, gI M 2 15), (0, 5), (0, l4)]) (rest := []) (ls' := [(2, 2), (0, gI M 2 15), (0, 5), (0, l4)]) (c1 := 0) (c2 := 0) (pc := 185) dX4_readPart_185 pl_4_104 rfl ⟨Nat.le_of_ble_eq_true rfl, Nat.le_of_ble_eq_true rfl⟩ rfl rfl rfl s0_2 (Nat.le_of_ble_eq_true rfl) (by omega) rfl rfl (pm_zc _) (hq sc _ (by omega)) (fun M12 hq => ?_)
            refine fr_aload_n (pc := 188) dX4_readPart_188 rfl rfl ?_
            refine fr_getr (a := 71) (pc := 189) dX4_readPart_189 rfl pf_4_9 s0_71 rfl rf_71_0 ?_
            refine fr_inVV (a := 70) (as := []) (rest := []) (ls' := [(2, 70), (9, 0)]) (c1 := 0) (c2 := 0) (pc := 192) dX4_readPart_192 pl_4_64 rfl ⟨Nat.le_of_ble_eq_true rfl, Nat.le_of_ble_eq_true rfl⟩ rfl rfl rfl s0_70 (Nat.le_of_ble_eq_true rfl) (by omega) rfl rfl (pm_zc _) (hq sc _ (by omega)) (fun M14 hq => ?_)
            refine fr_goto (tg := 206) (pc := 195) dX4_readPart_195 rfl ?_
            exact fr_vret (pc := 206) dX4_readPart_206 rfl hq
      · refine fr_aload_n (pc := 88) dX4_readPart_88 rfl rfl ?_
        obtain ⟨ho16, hq⟩ := hq
        refine fr_getf (a := 71) (i := 1) (v := 2) (t := 2) (pc := 89) dX4_readPart_89 rfl pf_4_15 rfl s0_71 rfl ho16 ?_
        refine fr_aload_n (pc := 92) dX4_readPart_92 rfl rfl ?_
        refine fr_getf (a := 71) (i := 1) (v := 2) (t := 2) (pc := 93) dX4_readPart_93 rfl pf_4_15 rfl s0_71 rfl ho16 ?_
        refine fr_getf (a := 2) (i := 15) (v := gI M 2 15) (t := 0) (pc := 96) dX4_readPart_96 rfl pf_4_41 rfl s0_2 rfl rfl ?_
        refine fr_bipush (pc := 99) dX4_readPart_99 (by decide) ?_
        refine fr_iconst (pc := 101) dX4_readPart_101 (by decide) ?_
        refine fr_inVV (a := 2) (as := [(0, gI M 2 15), (0, 6), (0, 0)]) (rest := []) (ls' := [(2, 2), (0, gI M 2 15), (0, 6), (0, 0)]) (c1 := 0) (c2 := 0) (pc := 102) dX4_readPart_102 pl_4_104 rfl ⟨Nat.le_of_ble_eq_true rfl, Nat.le_of_ble_eq_true rfl⟩ rfl rfl rfl s0_2 (Nat.le_of_ble_eq_true rfl) (by omega) rfl rfl (pm_zc _) (hq sc _ (by omega)) (fun M17 hq => ?_)
        refine fr_aload_n (pc := 105) dX4_readPart_105 rfl rfl ?_
        refine fr_getr (a := 71) (pc := 106) dX4_readPart_106 rfl pf_4_9 s0_71 rfl rf_71_0 ?_
        refine fr_inVV (a := 70) (as := []) (rest := []) (ls' := [(2, 70), (9, 0)]) (c1 := 0) (c2 := 0) (pc := 109) dX4_readPart_109 pl_4_64 rfl ⟨Nat.le_of_ble_eq_true rfl, Nat.le_of_ble_eq_true rfl⟩ rfl rfl rfl s0_70 (Nat.le_of_ble_eq_true rfl) (by omega) rfl rfl (pm_zc _) (hq sc _ (by omega)) (fun M19 hq => ?_)
        refine fr_aload_n (pc := 112) dX4_readPart_112 rfl rfl ?_
        refine fr_iload_n (pc := 113) dX4_readPart_113 rfl rfl ?_
        refine fr_iconst (pc := 114) dX4_readPart_114 (by decide) ?_
        refine fr_iadd (z := w32 (l1 + 1)) (pc := 115) dX4_readPart_115 rfl ?_
        refine fr_inVV (a := 71) (as := [(0, w32 (l1 + 1))]) (rest := []) (ls' := [(2, 71), (0, w32 (l1 + 1)), (9, 0), (9, 0), (9, 0)]) (c1 := 0) (c2 := 0) (pc := 116) dX4_readPart_116 pl_4_94 rfl ⟨Nat.le_of_ble_eq_true rfl, Nat.le_of_ble_eq_true rfl⟩ rfl rfl rfl s0_71 (Nat.le_of_ble_eq_true rfl) (by omega) rfl rfl (pm_zc _) (hq sc _ (by omega)) (fun M21 hq => ?_)
        refine fr_goto (tg := 206) (pc := 119) dX4_readPart_119 rfl ?_
        exact fr_vret (pc := 206) dX4_readPart_206 rfl hq
    · refine fr_aload_n (pc := 57) dX4_readPart_57 rfl rfl ?_
      refine fr_getr (a := 71) (pc := 58) dX4_readPart_58 rfl pf_4_9 s0_71 rfl rf_71_0 ?_
      refine fr_inVV (a := 70) (as := []) (rest := []) (ls' := [(2, 70), (9, 0)]) (c1 := 0) (c2 := 0) (pc := 61) dX4_readPart_61 pl_4_64 rfl ⟨Nat.le_of_ble_eq_true rfl, Nat.le_of_ble_eq_true rfl⟩ rfl rfl rfl s0_70 (Nat.le_of_ble_eq_true rfl) (by omega) rfl rfl (pm_zc _) (hq sc _ (by omega)) (fun M23 hq => ?_)
      refine fr_aload_n (pc := 64) dX4_readPart_64 rfl rfl ?_
      refine fr_iconst (pc := 65) dX4_readPart_65 (by decide) ?_
      refine fr_iload_n (pc := 66) dX4_readPart_66 rfl rfl ?_
      refine fr_iconst (pc := 67) dX4_readPart_67 (by decide) ?_
      refine fr_iadd (z := w32 (l1 + 1)) (pc := 68) dX4_readPart_68 rfl ?_
      refine fr_inVV (a := 71) (as := [(0, 0), (0, w32 (l1 + 1))]) (rest := []) (ls' := [(2, 71), (0, 0), (0, w32 (l1 + 1)), (9, 0), (9, 0), (9, 0)]) (c1 := 0) (c2 := 0) (pc := 69) dX4_readPart_69 pl_4_71 rfl ⟨Nat.le_of_ble_eq_true rfl, Nat.le_of_ble_eq_true rfl⟩ rfl rfl rfl s0_71 (Nat.le_of_ble_eq_true rfl) (by omega) rfl rfl (pm_zc _) (hq sc _ (by omega)) (fun M25 hq => ?_)
      refine fr_aload_n (pc := 72) dX4_readPart_72 rfl rfl ?_
      refine fr_getr (a := 71) (pc := 73) dX4_readPart_73 rfl pf_4_9 s0_71 rfl rf_71_0 ?_
      refine fr_bipush (pc := 76) dX4_readPart_76 (by decide) ?_
      refine fr_inVV (a := 70) (as := [(0, 41)]) (rest := []) (ls' := [(2, 70), (0, 41)]) (c1 := 0) (c2 := 0) (pc := 78) dX4_readPart_78 pl_4_67 rfl ⟨Nat.le_of_ble_eq_true rfl, Nat.le_of_ble_eq_true rfl⟩ rfl rfl rfl s0_70 (Nat.le_of_ble_eq_true rfl) (by omega) rfl rfl (pm_zc _) (hq sc _ (by omega)) (fun M27 hq => ?_)
      refine fr_goto (tg := 206) (pc := 81) dX4_readPart_81 rfl ?_
      exact fr_vret (pc := 206) dX4_readPart_206 rfl hq
  · refine fr_iload_n (pc := 53) dX4_readPart_53 rfl rfl ?_
    refine fr_ifc_eq (tg := 84) (pc := 54) dX4_readPart_54 rfl hq (fun hc1 hq => ?_) (fun hc1 hq => ?_)
    · refine fr_iload_n (pc := 84) dX4_readPart_84 rfl rfl ?_
      refine fr_ifc_eq (tg := 122) (pc := 85) dX4_readPart_85 rfl hq (fun hc2 hq => ?_) (fun hc2 hq => ?_)
      · refine fr_aload_n (pc := 122) dX4_readPart_122 rfl rfl ?_
        refine fr_getr (a := 71) (pc := 123) dX4_readPart_123 rfl pf_4_9 s0_71 rfl rf_71_0 ?_
        refine fr_getf (a := 70) (i := 4) (v := gI M 70 4) (t := 0) (pc := 126) dX4_readPart_126 rfl pf_4_38 rfl s0_70 rfl rfl ?_
        refine fr_iconst (pc := 129) dX4_readPart_129 (by decide) ?_
        refine fr_icm_ne (tg := 165) (pc := 130) dX4_readPart_130 rfl hq (fun hc3 hq => ?_) (fun hc3 hq => ?_)
        · refine fr_aload_n (pc := 133) dX4_readPart_133 rfl rfl ?_
          obtain ⟨ho4, hq⟩ := hq
          refine fr_getf (a := 71) (i := 1) (v := 36) (t := 2) (pc := 134) dX4_readPart_134 rfl pf_4_15 rfl s0_71 rfl ho4 ?_
          refine fr_aload_n (pc := 137) dX4_readPart_137 rfl rfl ?_
          refine fr_getf (a := 71) (i := 1) (v := 36) (t := 2) (pc := 138) dX4_readPart_138 rfl pf_4_15 rfl s0_71 rfl ho4 ?_
          refine fr_getf (a := 36) (i := 15) (v := gI M 36 15) (t := 0) (pc := 141) dX4_readPart_141 rfl pf_4_41 rfl s0_36 rfl rfl ?_
          refine fr_iconst (pc := 144) dX4_readPart_144 (by decide) ?_
          refine fr_aload_n (pc := 145) dX4_readPart_145 rfl rfl ?_
          refine fr_getr (a := 71) (pc := 146) dX4_readPart_146 rfl pf_4_9 s0_71 rfl rf_71_0 ?_
          refine fr_getf (a := 70) (i := 5) (v := gI M 70 5) (t := 0) (pc := 149) dX4_readPart_149 rfl pf_4_97 rfl s0_70 rfl rfl ?_
          refine fr_inVV (a := 36) (as := [(0, gI M 36 15), (0, 4), (0, gI M 70 5)]) (rest := []) (ls' := [(2, 36), (0, gI M 36 15), (0, 4), (0, gI M 70 5)]) (c1 := 0) (c2 := 0) (pc := 152) dX4_readPart_152 pl_4_104 rfl ⟨Nat.le_of_ble_eq_true rfl, Nat.le_of_ble_eq_true rfl⟩ rfl rfl rfl s0_36 (Nat.le_of_ble_eq_true rfl) (by omega) rfl rfl (pm_zc _) (hq sc _ (by omega)) (fun M5 hq => ?_)
          refine fr_aload_n (pc := 155) dX4_readPart_155 rfl rfl ?_
          refine fr_getr (a := 71) (pc := 156) dX4_readPart_156 rfl pf_4_9 s0_71 rfl rf_71_0 ?_
          refine fr_inVV (a := 70) (as := []) (rest := []) (ls' := [(2, 70), (9, 0)]) (c1 := 0) (c2 := 0) (pc := 159) dX4_readPart_159 pl_4_64 rfl ⟨Nat.le_of_ble_eq_true rfl, Nat.le_of_ble_eq_true rfl⟩ rfl rfl rfl s0_70 (Nat.le_of_ble_eq_true rfl) (by omega) rfl rfl (pm_zc _) (hq sc _ (by omega)) (fun M7 hq => ?_)
          refine fr_goto (tg := 206) (pc := 162) dX4_readPart_162 rfl ?_
          exact fr_vret (pc := 206) dX4_readPart_206 rfl hq
        · refine fr_iload (pc := 165) dX4_readPart_165 rfl rfl ?_
          refine fr_iconst (pc := 167) dX4_readPart_167 (by decide) ?_
          refine fr_icm_eq (tg := 198) (pc := 168) dX4_readPart_168 rfl hq (fun hc9 hq => ?_) (fun hc9 hq => ?_)
          · refine fr_aload_n (pc := 198) dX4_readPart_198 rfl rfl ?_
            refine fr_getr (a := 71) (pc := 199) dX4_readPart_199 rfl pf_4_9 s0_71 rfl rf_71_0 ?_
            refine fr_iconst (pc := 202) dX4_readPart_202 (by decide) ?_
            refine fr_inVV (a := 70) (as := [(0, 1)]) (rest := []) (ls' := [(2, 70), (0, 1)]) (c1 := 0) (c2 := 0) (pc := 203) dX4_readPart_203 pl_4_54 rfl ⟨Nat.le_of_ble_eq_true rfl, Nat.le_of_ble_eq_true rfl⟩ rfl rfl rfl s0_70 (Nat.le_of_ble_eq_true rfl) (by omega) rfl rfl (pm_zc _) ?_ (fun M' h => h)
            refine fr_aload_n (pc := 0) dX7_refuse_0 rfl rfl ?_
            refine fr_getf (a := 70) (i := 6) (v := gI M 70 6) (t := 0) (pc := 1) dX7_refuse_1 rfl pf_7_31 rfl s0_70 rfl rfl ?_
            refine fr_ifc_ne (tg := 25) (pc := 4) dX7_refuse_4 rfl hq (fun hc10 hq => ?_) (fun hc10 hq => ?_)
            · refine fr_aload_n (pc := 7) dX7_refuse_7 rfl rfl ?_
              refine fr_bipush (pc := 8) dX7_refuse_8 (by decide) ?_
              refine fr_aload_n (pc := 10) dX7_refuse_10 rfl rfl ?_
              refine fr_getf (a := 70) (i := 3) (v := gI M 70 3) (t := 0) (pc := 11) dX7_refuse_11 rfl pf_7_37 rfl s0_70 rfl rfl ?_
              refine fr_imul (z := w32 (8 * (gI M 70 3))) (pc := 14) dX7_refuse_14 rfl ?_
              refine fr_iload_n (pc := 15) dX7_refuse_15 rfl rfl ?_
              refine fr_iadd (z := w32 ((w32 (8 * (gI M 70 3))) + 1)) (pc := 16) dX7_refuse_16 rfl ?_
              refine fr_put (a := 70) (i := 6) (pc := 17) dX7_refuse_17 rfl pf_7_31 rfl s0_70 rfl rfl nf_70_6 rfl ?_
              refine fr_aload_n (pc := 20) dX7_refuse_20 rfl rfl ?_
              refine fr_iconst (pc := 21) dX7_refuse_21 (by decide) ?_
              refine fr_put (a := 70) (i := 4) (pc := 22) dX7_refuse_22 rfl pf_7_40 rfl s0_70 rfl rfl nf_70_4 rfl ?_
              refine fr_vret (pc := 25) dX7_refuse_25 rfl ?_
              exact fr_vret (pc := 206) dX4_readPart_206 rfl hq
            · refine fr_vret (pc := 25) dX7_refuse_25 rfl ?_
              exact fr_vret (pc := 206) dX4_readPart_206 rfl hq
          · refine fr_aload_n (pc := 171) dX4_readPart_171 rfl rfl ?_
            obtain ⟨ho11, hq⟩ := hq
            refine fr_getf (a := 71) (i := 1) (v := 36) (t := 2) (pc := 172) dX4_readPart_172 rfl pf_4_15 rfl s0_71 rfl ho11 ?_
            refine fr_aload_n (pc := 175) dX4_readPart_175 rfl rfl ?_
            refine fr_getf (a := 71) (i := 1) (v := 36) (t := 2) (pc := 176) dX4_readPart_176 rfl pf_4_15 rfl s0_71 rfl ho11 ?_
            refine fr_getf (a := 36) (i := 15) (v := gI M 36 15) (t := 0) (pc := 179) dX4_readPart_179 rfl pf_4_41 rfl s0_36 rfl rfl ?_
            refine fr_iconst (pc := 182) dX4_readPart_182 (by decide) ?_
            refine fr_iload (pc := 183) dX4_readPart_183 rfl rfl ?_
            refine fr_inVV (a := 36) (as := [(0, gI M 36 15), (0, 5), (0, l4)]) (rest := []) (ls' := [(2, 36), (0, gI M 36 15), (0, 5), (0, l4)]) (c1 := 0) (c2 := 0) (pc := 185) dX4_readPart_185 pl_4_104 rfl ⟨Nat.le_of_ble_eq_true rfl, Nat.le_of_ble_eq_true rfl⟩ rfl rfl rfl s0_36 (Nat.le_of_ble_eq_true rfl) (by omega) rfl rfl (pm_zc _) (hq sc _ (by omega)) (fun M12 hq => ?_)
            refine fr_aload_n (pc := 188) dX4_readPart_188 rfl rfl ?_
            refine fr_getr (a := 71) (pc := 189) dX4_readPart_189 rfl pf_4_9 s0_71 rfl rf_71_0 ?_
            refine fr_inVV (a := 70) (as := []) (rest := []) (ls' := [(2, 70), (9, 0)]) (c1 := 0) (c2 := 0) (pc := 192) dX4_readPart_192 pl_4_64 rfl ⟨Nat.le_of_ble_eq_true rfl, Nat.le_of_ble_eq_true rfl⟩ rfl rfl rfl s0_70 (Nat.le_of_ble_eq_true rfl) (by omega) rfl rfl (pm_zc _) (hq sc _ (by omega)) (fun M14 hq => ?_)
            refine fr_goto (tg := 206) (pc := 195) dX4_readPart_195 rfl ?_
            exact fr_vret (pc := 206) dX4_readPart_206 rfl hq
      · refine fr_aload_n (pc := 88) dX4_readPart_88 rfl rfl ?_
        obtain ⟨ho16, hq⟩ := hq
        refine fr_getf (a := 71) (i := 1) (v := 36) (t := 2) (pc := 89) dX4_readPart_89 rfl pf_4_15 rfl s0_71 rfl ho16 ?_
        refine fr_aload_n (pc := 92) dX4_readPart_92 rfl rfl ?_
        refine fr_getf (a := 71) (i := 1) (v := 36) (t := 2) (pc := 93) dX4_readPart_93 rfl pf_4_15 rfl s0_71 rfl ho16 ?_
        refine fr_getf (a := 36) (i := 15) (v := gI M 36 15) (t := 0) (pc := 96) dX4_readPart_96 rfl pf_4_41 rfl s0_36 rfl rfl ?_
        refine fr_bipush (pc := 99) dX4_readPart_99 (by decide) ?_
        refine fr_iconst (pc := 101) dX4_readPart_101 (by decide) ?_
        refine fr_inVV (a := 36) (as := [(0, gI M 36 15), (0, 6), (0, 0)]) (rest := []) (ls' := [(2, 36), (0, gI M 36 15), (0, 6), (0, 0)]) (c1 := 0) (c2 := 0) (pc := 102) dX4_readPart_102 pl_4_104 rfl ⟨Nat.le_of_ble_eq_true rfl, Nat.le_of_ble_eq_true rfl⟩ rfl rfl rfl s0_36 (Nat.le_of_ble_eq_true rfl) (by omega) rfl rfl (pm_zc _) (hq sc _ (by omega)) (fun M17 hq => ?_)
        refine fr_aload_n (pc := 105) dX4_readPart_105 rfl rfl ?_
        refine fr_getr (a := 71) (pc := 106) dX4_readPart_106 rfl pf_4_9 s0_71 rfl rf_71_0 ?_
        refine fr_inVV (a := 70) (as := []) (rest := []) (ls' := [(2, 70), (9, 0)]) (c1 := 0) (c2 := 0) (pc := 109) dX4_readPart_109 pl_4_64 rfl ⟨Nat.le_of_ble_eq_true rfl, Nat.le_of_ble_eq_true rfl⟩ rfl rfl rfl s0_70 (Nat.le_of_ble_eq_true rfl) (by omega) rfl rfl (pm_zc _) (hq sc _ (by omega)) (fun M19 hq => ?_)
        refine fr_aload_n (pc := 112) dX4_readPart_112 rfl rfl ?_
        refine fr_iload_n (pc := 113) dX4_readPart_113 rfl rfl ?_
        refine fr_iconst (pc := 114) dX4_readPart_114 (by decide) ?_
        refine fr_iadd (z := w32 (l1 + 1)) (pc := 115) dX4_readPart_115 rfl ?_
        refine fr_inVV (a := 71) (as := [(0, w32 (l1 + 1))]) (rest := []) (ls' := [(2, 71), (0, w32 (l1 + 1)), (9, 0), (9, 0), (9, 0)]) (c1 := 0) (c2 := 0) (pc := 116) dX4_readPart_116 pl_4_94 rfl ⟨Nat.le_of_ble_eq_true rfl, Nat.le_of_ble_eq_true rfl⟩ rfl rfl rfl s0_71 (Nat.le_of_ble_eq_true rfl) (by omega) rfl rfl (pm_zc _) (hq sc _ (by omega)) (fun M21 hq => ?_)
        refine fr_goto (tg := 206) (pc := 119) dX4_readPart_119 rfl ?_
        exact fr_vret (pc := 206) dX4_readPart_206 rfl hq
    · refine fr_aload_n (pc := 57) dX4_readPart_57 rfl rfl ?_
      refine fr_getr (a := 71) (pc := 58) dX4_readPart_58 rfl pf_4_9 s0_71 rfl rf_71_0 ?_
      refine fr_inVV (a := 70) (as := []) (rest := []) (ls' := [(2, 70), (9, 0)]) (c1 := 0) (c2 := 0) (pc := 61) dX4_readPart_61 pl_4_64 rfl ⟨Nat.le_of_ble_eq_true rfl, Nat.le_of_ble_eq_true rfl⟩ rfl rfl rfl s0_70 (Nat.le_of_ble_eq_true rfl) (by omega) rfl rfl (pm_zc _) (hq sc _ (by omega)) (fun M23 hq => ?_)
      refine fr_aload_n (pc := 64) dX4_readPart_64 rfl rfl ?_
      refine fr_iconst (pc := 65) dX4_readPart_65 (by decide) ?_
      refine fr_iload_n (pc := 66) dX4_readPart_66 rfl rfl ?_
      refine fr_iconst (pc := 67) dX4_readPart_67 (by decide) ?_
      refine fr_iadd (z := w32 (l1 + 1)) (pc := 68) dX4_readPart_68 rfl ?_
      refine fr_inVV (a := 71) (as := [(0, 0), (0, w32 (l1 + 1))]) (rest := []) (ls' := [(2, 71), (0, 0), (0, w32 (l1 + 1)), (9, 0), (9, 0), (9, 0)]) (c1 := 0) (c2 := 0) (pc := 69) dX4_readPart_69 pl_4_71 rfl ⟨Nat.le_of_ble_eq_true rfl, Nat.le_of_ble_eq_true rfl⟩ rfl rfl rfl s0_71 (Nat.le_of_ble_eq_true rfl) (by omega) rfl rfl (pm_zc _) (hq sc _ (by omega)) (fun M25 hq => ?_)
      refine fr_aload_n (pc := 72) dX4_readPart_72 rfl rfl ?_
      refine fr_getr (a := 71) (pc := 73) dX4_readPart_73 rfl pf_4_9 s0_71 rfl rf_71_0 ?_
      refine fr_bipush (pc := 76) dX4_readPart_76 (by decide) ?_
      refine fr_inVV (a := 70) (as := [(0, 41)]) (rest := []) (ls' := [(2, 70), (0, 41)]) (c1 := 0) (c2 := 0) (pc := 78) dX4_readPart_78 pl_4_67 rfl ⟨Nat.le_of_ble_eq_true rfl, Nat.le_of_ble_eq_true rfl⟩ rfl rfl rfl s0_70 (Nat.le_of_ble_eq_true rfl) (by omega) rfl rfl (pm_zc _) (hq sc _ (by omega)) (fun M27 hq => ?_)
      refine fr_goto (tg := 206) (pc := 81) dX4_readPart_81 rfl ?_
      exact fr_vret (pc := 206) dX4_readPart_206 rfl hq
theorem k4_readBlock_r {h : Nat} {o : Nat} {a1 a2 a3 : Int} {M : pm_M} {K : pm_M → Prop} (ho : o = 2 ∨ o = 36) (hh : 101 ≤ h) (hq : (if gI M 70 4 = 5 then (if gI M 70 5 = 123 then (if a3 < 4 then k7_expectMark 123 M (fun M4 => k4_readBlock_38 h o a1 a2 a3 0 M4 K) else (if gI M 70 6 = 0 then K (upI (upI M 70 6 (w32 ((w32 (8 * (gI M 70 3))) + 2))) 70 4 1) else K M)) else k7_expectMark 123 M (fun M7 => k4_readBlock_38 h o a1 a2 a3 0 M7 K)) else k7_expectMark 123 M (fun M9 => k4_readBlock_38 h o a1 a2 a3 0 M9 K))) : k4_readBlock h o a1 a2 a3 M K := by
  intro sc d hd
  rcases ho with rfl | rfl
  · refine fr_aload_n (pc := 0) dX4_readBlock_0 rfl rfl ?_
    refine fr_getr (a := 71) (pc := 1) dX4_readBlock_1 rfl pf_4_9 s0_71 rfl rf_71_0 ?_
    refine fr_bipush (pc := 4) dX4_readBlock_4 (by decide) ?_
    refine fr_inVI (a := 70) (as := [(0, 123)]) (rest := []) (ls' := [(2, 70), (0, 123)]) (c1 := 0) (c2 := 0) (pc := 6) dX4_readBlock_6 pl_4_90 rfl ⟨Nat.le_of_ble_eq_true rfl, Nat.le_of_ble_eq_true rfl⟩ rfl rfl rfl s0_70 (Nat.le_of_ble_eq_true rfl) (by omega) rfl rfl (pm_zc _) ?_ (fun y M' h => h)
    refine fr_aload_n (pc := 0) dX7_isMark_0 rfl rfl ?_
    refine fr_getf (a := 70) (i := 4) (v := gI M 70 4) (t := 0) (pc := 1) dX7_isMark_1 rfl pf_7_40 rfl s0_70 rfl rfl ?_
    refine fr_iconst (pc := 4) dX7_isMark_4 (by decide) ?_
    refine fr_icm_ne (tg := 20) (pc := 5) dX7_isMark_5 rfl hq (fun hc1 hq => ?_) (fun hc1 hq => ?_)
    · refine fr_aload_n (pc := 8) dX7_isMark_8 rfl rfl ?_
      refine fr_getf (a := 70) (i := 5) (v := gI M 70 5) (t := 0) (pc := 9) dX7_isMark_9 rfl pf_7_43 rfl s0_70 rfl rfl ?_
      refine fr_iload_n (pc := 12) dX7_isMark_12 rfl rfl ?_
      refine fr_icm_ne (tg := 20) (pc := 13) dX7_isMark_13 rfl hq (fun hc2 hq => ?_) (fun hc2 hq => ?_)
      · refine fr_iconst (pc := 16) dX7_isMark_16 (by decide) ?_
        refine fr_goto (tg := 21) (pc := 17) dX7_isMark_17 rfl ?_
        refine fr_iret (pc := 21) dX7_isMark_21 (Or.inr (Or.inl ⟨rfl, Or.inr rfl⟩)) ?_
        refine fr_ifcF (tg := 26) (pc := 9) dX4_readBlock_9 rfl rfl ?_
        refine fr_iload_n (pc := 12) dX4_readBlock_12 rfl rfl ?_
        refine fr_iconst (pc := 13) dX4_readBlock_13 (by decide) ?_
        refine fr_icm_lt (tg := 26) (pc := 14) dX4_readBlock_14 rfl hq (fun hc3 hq => ?_) (fun hc3 hq => ?_)
        · refine fr_aload_n (pc := 26) dX4_readBlock_26 rfl rfl ?_
          refine fr_getr (a := 71) (pc := 27) dX4_readBlock_27 rfl pf_4_9 s0_71 rfl rf_71_0 ?_
          refine fr_bipush (pc := 30) dX4_readBlock_30 (by decide) ?_
          refine fr_inVV (a := 70) (as := [(0, 123)]) (rest := []) (ls' := [(2, 70), (0, 123)]) (c1 := 0) (c2 := 0) (pc := 32) dX4_readBlock_32 pl_4_67 rfl ⟨Nat.le_of_ble_eq_true rfl, Nat.le_of_ble_eq_true rfl⟩ rfl rfl rfl s0_70 (Nat.le_of_ble_eq_true rfl) (by omega) rfl rfl (pm_zc _) (hq sc _ (by omega)) (fun M4 hq => ?_)
          refine fr_iconst (pc := 35) dX4_readBlock_35 (by decide) ?_
          refine fr_istore (ls2 := [(2, 71), (0, a1), (0, a2), (0, a3), (0, 0)]) (pc := 36) dX4_readBlock_36 rfl (Nat.le_of_ble_eq_true rfl) rfl ?_
          exact hq sc d hd
        · refine fr_aload_n (pc := 17) dX4_readBlock_17 rfl rfl ?_
          refine fr_getr (a := 71) (pc := 18) dX4_readBlock_18 rfl pf_4_9 s0_71 rfl rf_71_0 ?_
          refine fr_iconst (pc := 21) dX4_readBlock_21 (by decide) ?_
          refine fr_inVV (a := 70) (as := [(0, 2)]) (rest := []) (ls' := [(2, 70), (0, 2)]) (c1 := 0) (c2 := 0) (pc := 22) dX4_readBlock_22 pl_4_54 rfl ⟨Nat.le_of_ble_eq_true rfl, Nat.le_of_ble_eq_true rfl⟩ rfl rfl rfl s0_70 (Nat.le_of_ble_eq_true rfl) (by omega) rfl rfl (pm_zc _) ?_ (fun M' h => h)
          refine fr_aload_n (pc := 0) dX7_refuse_0 rfl rfl ?_
          refine fr_getf (a := 70) (i := 6) (v := gI M 70 6) (t := 0) (pc := 1) dX7_refuse_1 rfl pf_7_31 rfl s0_70 rfl rfl ?_
          refine fr_ifc_ne (tg := 25) (pc := 4) dX7_refuse_4 rfl hq (fun hc6 hq => ?_) (fun hc6 hq => ?_)
          · refine fr_aload_n (pc := 7) dX7_refuse_7 rfl rfl ?_
            refine fr_bipush (pc := 8) dX7_refuse_8 (by decide) ?_
            refine fr_aload_n (pc := 10) dX7_refuse_10 rfl rfl ?_
            refine fr_getf (a := 70) (i := 3) (v := gI M 70 3) (t := 0) (pc := 11) dX7_refuse_11 rfl pf_7_37 rfl s0_70 rfl rfl ?_
            refine fr_imul (z := w32 (8 * (gI M 70 3))) (pc := 14) dX7_refuse_14 rfl ?_
            refine fr_iload_n (pc := 15) dX7_refuse_15 rfl rfl ?_
            refine fr_iadd (z := w32 ((w32 (8 * (gI M 70 3))) + 2)) (pc := 16) dX7_refuse_16 rfl ?_
            refine fr_put (a := 70) (i := 6) (pc := 17) dX7_refuse_17 rfl pf_7_31 rfl s0_70 rfl rfl nf_70_6 rfl ?_
            refine fr_aload_n (pc := 20) dX7_refuse_20 rfl rfl ?_
            refine fr_iconst (pc := 21) dX7_refuse_21 (by decide) ?_
            refine fr_put (a := 70) (i := 4) (pc := 22) dX7_refuse_22 rfl pf_7_40 rfl s0_70 rfl rfl nf_70_4 rfl ?_
            refine fr_vret (pc := 25) dX7_refuse_25 rfl ?_
            exact fr_vret (pc := 25) dX4_readBlock_25 rfl hq
          · refine fr_vret (pc := 25) dX7_refuse_25 rfl ?_
            exact fr_vret (pc := 25) dX4_readBlock_25 rfl hq
      · refine fr_iconst (pc := 20) dX7_isMark_20 (by decide) ?_
        refine fr_iret (pc := 21) dX7_isMark_21 (Or.inr (Or.inl ⟨rfl, Or.inl rfl⟩)) ?_
        refine fr_ifcT (tg := 26) (pc := 9) dX4_readBlock_9 rfl rfl ?_
        refine fr_aload_n (pc := 26) dX4_readBlock_26 rfl rfl ?_
        refine fr_getr (a := 71) (pc := 27) dX4_readBlock_27 rfl pf_4_9 s0_71 rfl rf_71_0 ?_
        refine fr_bipush (pc := 30) dX4_readBlock_30 (by decide) ?_
        refine fr_inVV (a := 70) (as := [(0, 123)]) (rest := []) (ls' := [(2, 70), (0, 123)]) (c1 := 0) (c2 := 0) (pc := 32) dX4_readBlock_32 pl_4_67 rfl ⟨Nat.le_of_ble_eq_true rfl, Nat.le_of_ble_eq_true rfl⟩ rfl rfl rfl s0_70 (Nat.le_of_ble_eq_true rfl) (by omega) rfl rfl (pm_zc _) (hq sc _ (by omega)) (fun M7 hq => ?_)
        refine fr_iconst (pc := 35) dX4_readBlock_35 (by decide) ?_
        refine fr_istore (ls2 := [(2, 71), (0, a1), (0, a2), (0, a3), (0, 0)]) (pc := 36) dX4_readBlock_36 rfl (Nat.le_of_ble_eq_true rfl) rfl ?_
        exact hq sc d hd
    · refine fr_iconst (pc := 20) dX7_isMark_20 (by decide) ?_
      refine fr_iret (pc := 21) dX7_isMark_21 (Or.inr (Or.inl ⟨rfl, Or.inl rfl⟩)) ?_
      refine fr_ifcT (tg := 26) (pc := 9) dX4_readBlock_9 rfl rfl ?_
      refine fr_aload_n (pc := 26) dX4_readBlock_26 rfl rfl ?_
      refine fr_getr (a := 71) (pc := 27) dX4_readBlock_27 rfl pf_4_9 s0_71 rfl rf_71_0 ?_
      refine fr_bipush (pc := 30) dX4_readBlock_30 (by decide) ?_
      refine fr_inVV (a := 70) (as := [(0, 123)]) (rest := []) (ls' := [(2, 70), (0, 123)]) (c1 := 0) (c2 := 0) (pc := 32) dX4_readBlock_32 pl_4_67 rfl ⟨Nat.le_of_ble_eq_true rfl, Nat.le_of_ble_eq_true rfl⟩ rfl rfl rfl s0_70 (Nat.le_of_ble_eq_true rfl) (by omega) rfl rfl (pm_zc _) (hq sc _ (by omega)) (fun M9 hq => ?_)
      refine fr_iconst (pc := 35) dX4_readBlock_35 (by decide) ?_
      refine fr_istore (ls2 := [(2, 71), (0, a1), (0, a2), (0, a3), (0, 0)]) (pc := 36) dX4_readBlock_36 rfl (Nat.le_of_ble_eq_true rfl) rfl ?_
      exact hq sc d hd
  · refine fr_aload_n (pc := 0) dX4_readBlock_0 rfl rfl ?_
    refine fr_getr (a := 71) (pc := 1) dX4_readBlock_1 rfl pf_4_9 s0_71 rfl rf_71_0 ?_
    refine fr_bipush (pc := 4) dX4_readBlock_4 (by decide) ?_
    refine fr_inVI (a := 70) (as := [(0, 123)]) (rest := []) (ls' := [(2, 70), (0, 123)]) (c1 := 0) (c2 := 0) (pc := 6) dX4_readBlock_6 pl_4_90 rfl ⟨Nat.le_of_ble_eq_true rfl, Nat.le_of_ble_eq_true rfl⟩ rfl rfl rfl s0_70 (Nat.le_of_ble_eq_true rfl) (by omega) rfl rfl (pm_zc _) ?_ (fun y M' h => h)
    refine fr_aload_n (pc := 0) dX7_isMark_0 rfl rfl ?_
    refine fr_getf (a := 70) (i := 4) (v := gI M 70 4) (t := 0) (pc := 1) dX7_isMark_1 rfl pf_7_40 rfl s0_70 rfl rfl ?_
    refine fr_iconst (pc := 4) dX7_isMark_4 (by decide) ?_
    refine fr_icm_ne (tg := 20) (pc := 5) dX7_isMark_5 rfl hq (fun hc1 hq => ?_) (fun hc1 hq => ?_)
    · refine fr_aload_n (pc := 8) dX7_isMark_8 rfl rfl ?_
      refine fr_getf (a := 70) (i := 5) (v := gI M 70 5) (t := 0) (pc := 9) dX7_isMark_9 rfl pf_7_43 rfl s0_70 rfl rfl ?_
      refine fr_iload_n (pc := 12) dX7_isMark_12 rfl rfl ?_
      refine fr_icm_ne (tg := 20) (pc := 13) dX7_isMark_13 rfl hq (fun hc2 hq => ?_) (fun hc2 hq => ?_)
      · refine fr_iconst (pc := 16) dX7_isMark_16 (by decide) ?_
        refine fr_goto (tg := 21) (pc := 17) dX7_isMark_17 rfl ?_
        refine fr_iret (pc := 21) dX7_isMark_21 (Or.inr (Or.inl ⟨rfl, Or.inr rfl⟩)) ?_
        refine fr_ifcF (tg := 26) (pc := 9) dX4_readBlock_9 rfl rfl ?_
        refine fr_iload_n (pc := 12) dX4_readBlock_12 rfl rfl ?_
        refine fr_iconst (pc := 13) dX4_readBlock_13 (by decide) ?_
        refine fr_icm_lt (tg := 26) (pc := 14) dX4_readBlock_14 rfl hq (fun hc3 hq => ?_) (fun hc3 hq => ?_)
        · refine fr_aload_n (pc := 26) dX4_readBlock_26 rfl rfl ?_
          refine fr_getr (a := 71) (pc := 27) dX4_readBlock_27 rfl pf_4_9 s0_71 rfl rf_71_0 ?_
          refine fr_bipush (pc := 30) dX4_readBlock_30 (by decide) ?_
          refine fr_inVV (a := 70) (as := [(0, 123)]) (rest := []) (ls' := [(2, 70), (0, 123)]) (c1 := 0) (c2 := 0) (pc := 32) dX4_readBlock_32 pl_4_67 rfl ⟨Nat.le_of_ble_eq_true rfl, Nat.le_of_ble_eq_true rfl⟩ rfl rfl rfl s0_70 (Nat.le_of_ble_eq_true rfl) (by omega) rfl rfl (pm_zc _) (hq sc _ (by omega)) (fun M4 hq => ?_)
          refine fr_iconst (pc := 35) dX4_readBlock_35 (by decide) ?_
          refine fr_istore (ls2 := [(2, 71), (0, a1), (0, a2), (0, a3), (0, 0)]) (pc := 36) dX4_readBlock_36 rfl (Nat.le_of_ble_eq_true rfl) rfl ?_
          exact hq sc d hd
        · refine fr_aload_n (pc := 17) dX4_readBlock_17 rfl rfl ?_
          refine fr_getr (a := 71) (pc := 18) dX4_readBlock_18 rfl pf_4_9 s0_71 rfl rf_71_0 ?_
          refine fr_iconst (pc := 21) dX4_readBlock_21 (by decide) ?_
          refine fr_inVV (a := 70) (as := [(0, 2)]) (rest := []) (ls' := [(2, 70), (0, 2)]) (c1 := 0) (c2 := 0) (pc := 22) dX4_readBlock_22 pl_4_54 rfl ⟨Nat.le_of_ble_eq_true rfl, Nat.le_of_ble_eq_true rfl⟩ rfl rfl rfl s0_70 (Nat.le_of_ble_eq_true rfl) (by omega) rfl rfl (pm_zc _) ?_ (fun M' h => h)
          refine fr_aload_n (pc := 0) dX7_refuse_0 rfl rfl ?_
          refine fr_getf (a := 70) (i := 6) (v := gI M 70 6) (t := 0) (pc := 1) dX7_refuse_1 rfl pf_7_31 rfl s0_70 rfl rfl ?_
          refine fr_ifc_ne (tg := 25) (pc := 4) dX7_refuse_4 rfl hq (fun hc6 hq => ?_) (fun hc6 hq => ?_)
          · refine fr_aload_n (pc := 7) dX7_refuse_7 rfl rfl ?_
            refine fr_bipush (pc := 8) dX7_refuse_8 (by decide) ?_
            refine fr_aload_n (pc := 10) dX7_refuse_10 rfl rfl ?_
            refine fr_getf (a := 70) (i := 3) (v := gI M 70 3) (t := 0) (pc := 11) dX7_refuse_11 rfl pf_7_37 rfl s0_70 rfl rfl ?_
            refine fr_imul (z := w32 (8 * (gI M 70 3))) (pc := 14) dX7_refuse_14 rfl ?_
            refine fr_iload_n (pc := 15) dX7_refuse_15 rfl rfl ?_
            refine fr_iadd (z := w32 ((w32 (8 * (gI M 70 3))) + 2)) (pc := 16) dX7_refuse_16 rfl ?_
            refine fr_put (a := 70) (i := 6) (pc := 17) dX7_refuse_17 rfl pf_7_31 rfl s0_70 rfl rfl nf_70_6 rfl ?_
            refine fr_aload_n (pc := 20) dX7_refuse_20 rfl rfl ?_
            refine fr_iconst (pc := 21) dX7_refuse_21 (by decide) ?_
            refine fr_put (a := 70) (i := 4) (pc := 22) dX7_refuse_22 rfl pf_7_40 rfl s0_70 rfl rfl nf_70_4 rfl ?_
            refine fr_vret (pc := 25) dX7_refuse_25 rfl ?_
            exact fr_vret (pc := 25) dX4_readBlock_25 rfl hq
          · refine fr_vret (pc := 25) dX7_refuse_25 rfl ?_
            exact fr_vret (pc := 25) dX4_readBlock_25 rfl hq
      · refine fr_iconst (pc := 20) dX7_isMark_20 (by decide) ?_
        refine fr_iret (pc := 21) dX7_isMark_21 (Or.inr (Or.inl ⟨rfl, Or.inl rfl⟩)) ?_
        refine fr_ifcT (tg := 26) (pc := 9) dX4_readBlock_9 rfl rfl ?_
        refine fr_aload_n (pc := 26) dX4_readBlock_26 rfl rfl ?_
        refine fr_getr (a := 71) (pc := 27) dX4_readBlock_27 rfl pf_4_9 s0_71 rfl rf_71_0 ?_
        refine fr_bipush (pc := 30) dX4_readBlock_30 (by decide) ?_
        refine fr_inVV (a := 70) (as := [(0, 123)]) (rest := []) (ls' := [(2, 70), (0, 123)]) (c1 := 0) (c2 := 0) (pc := 32) dX4_readBlock_32 pl_4_67 rfl ⟨Nat.le_of_ble_eq_true rfl, Nat.le_of_ble_eq_true rfl⟩ rfl rfl rfl s0_70 (Nat.le_of_ble_eq_true rfl) (by omega) rfl rfl (pm_zc _) (hq sc _ (by omega)) (fun M7 hq => ?_)
        refine fr_iconst (pc := 35) dX4_readBlock_35 (by decide) ?_
        refine fr_istore (ls2 := [(2, 71), (0, a1), (0, a2), (0, a3), (0, 0)]) (pc := 36) dX4_readBlock_36 rfl (Nat.le_of_ble_eq_true rfl) rfl ?_
        exact hq sc d hd
    · refine fr_iconst (pc := 20) dX7_isMark_20 (by decide) ?_
      refine fr_iret (pc := 21) dX7_isMark_21 (Or.inr (Or.inl ⟨rfl, Or.inl rfl⟩)) ?_
      refine fr_ifcT (tg := 26) (pc := 9) dX4_readBlock_9 rfl rfl ?_
      refine fr_aload_n (pc := 26) dX4_readBlock_26 rfl rfl ?_
      refine fr_getr (a := 71) (pc := 27) dX4_readBlock_27 rfl pf_4_9 s0_71 rfl rf_71_0 ?_
      refine fr_bipush (pc := 30) dX4_readBlock_30 (by decide) ?_
      refine fr_inVV (a := 70) (as := [(0, 123)]) (rest := []) (ls' := [(2, 70), (0, 123)]) (c1 := 0) (c2 := 0) (pc := 32) dX4_readBlock_32 pl_4_67 rfl ⟨Nat.le_of_ble_eq_true rfl, Nat.le_of_ble_eq_true rfl⟩ rfl rfl rfl s0_70 (Nat.le_of_ble_eq_true rfl) (by omega) rfl rfl (pm_zc _) (hq sc _ (by omega)) (fun M9 hq => ?_)
      refine fr_iconst (pc := 35) dX4_readBlock_35 (by decide) ?_
      refine fr_istore (ls2 := [(2, 71), (0, a1), (0, a2), (0, a3), (0, 0)]) (pc := 36) dX4_readBlock_36 rfl (Nat.le_of_ble_eq_true rfl) rfl ?_
      exact hq sc d hd
theorem k4_readBlock_38_r {h : Nat} {o : Nat} {l1 l2 l3 l4 : Int} {M : pm_M} {K : pm_M → Prop} (ho : o = 2 ∨ o = 36) (hh : 101 ≤ h) (hq : (if l4 < 600 then (if gI M 70 6 = 0 then (if gI M 70 4 = 5 then (if gI M 70 5 = 125 then k7_expectMark 125 M (fun M5 => K M5) else k4_readStatement (h - 1) o l1 l2 (w32 (l3 + 1)) M (fun M7 => k4_readBlock_38 h o l1 l2 l3 (w32 (l4 + 1)) M7 K)) else k4_readStatement (h - 1) o l1 l2 (w32 (l3 + 1)) M (fun M9 => k4_readBlock_38 h o l1 l2 l3 (w32 (l4 + 1)) M9 K)) else k7_expectMark 125 M (fun M11 => K M11)) else k7_expectMark 125 M (fun M13 => K M13))) : k4_readBlock_38 h o l1 l2 l3 l4 M K := by
  intro sc d hd
  rcases ho with rfl | rfl
  · refine fr_iload (pc := 38) dX4_readBlock_38 rfl rfl ?_
    refine fr_sipush (pc := 40) dX4_readBlock_40 (by decide) ?_
    refine fr_icm_ge (tg := 83) (pc := 43) dX4_readBlock_43 rfl hq (fun hc1 hq => ?_) (fun hc1 hq => ?_)
    · refine fr_aload_n (pc := 46) dX4_readBlock_46 rfl rfl ?_
      refine fr_getr (a := 71) (pc := 47) dX4_readBlock_47 rfl pf_4_9 s0_71 rfl rf_71_0 ?_
      refine fr_getf (a := 70) (i := 6) (v := gI M 70 6) (t := 0) (pc := 50) dX4_readBlock_50 rfl pf_4_34 rfl s0_70 rfl rfl ?_
      refine fr_ifc_ne (tg := 83) (pc := 53) dX4_readBlock_53 rfl hq (fun hc2 hq => ?_) (fun hc2 hq => ?_)
      · refine fr_aload_n (pc := 56) dX4_readBlock_56 rfl rfl ?_
        refine fr_getr (a := 71) (pc := 57) dX4_readBlock_57 rfl pf_4_9 s0_71 rfl rf_71_0 ?_
        refine fr_bipush (pc := 60) dX4_readBlock_60 (by decide) ?_
        refine fr_inVI (a := 70) (as := [(0, 125)]) (rest := []) (ls' := [(2, 70), (0, 125)]) (c1 := 0) (c2 := 0) (pc := 62) dX4_readBlock_62 pl_4_90 rfl ⟨Nat.le_of_ble_eq_true rfl, Nat.le_of_ble_eq_true rfl⟩ rfl rfl rfl s0_70 (Nat.le_of_ble_eq_true rfl) (by omega) rfl rfl (pm_zc _) ?_ (fun y M' h => h)
        refine fr_aload_n (pc := 0) dX7_isMark_0 rfl rfl ?_
        refine fr_getf (a := 70) (i := 4) (v := gI M 70 4) (t := 0) (pc := 1) dX7_isMark_1 rfl pf_7_40 rfl s0_70 rfl rfl ?_
        refine fr_iconst (pc := 4) dX7_isMark_4 (by decide) ?_
        refine fr_icm_ne (tg := 20) (pc := 5) dX7_isMark_5 rfl hq (fun hc3 hq => ?_) (fun hc3 hq => ?_)
        · refine fr_aload_n (pc := 8) dX7_isMark_8 rfl rfl ?_
          refine fr_getf (a := 70) (i := 5) (v := gI M 70 5) (t := 0) (pc := 9) dX7_isMark_9 rfl pf_7_43 rfl s0_70 rfl rfl ?_
          refine fr_iload_n (pc := 12) dX7_isMark_12 rfl rfl ?_
          refine fr_icm_ne (tg := 20) (pc := 13) dX7_isMark_13 rfl hq (fun hc4 hq => ?_) (fun hc4 hq => ?_)
          · refine fr_iconst (pc := 16) dX7_isMark_16 (by decide) ?_
            refine fr_goto (tg := 21) (pc := 17) dX7_isMark_17 rfl ?_
            refine fr_iret (pc := 21) dX7_isMark_21 (Or.inr (Or.inl ⟨rfl, Or.inr rfl⟩)) ?_
            refine fr_ifcT (tg := 83) (pc := 65) dX4_readBlock_65 rfl rfl ?_
            refine fr_aload_n (pc := 83) dX4_readBlock_83 rfl rfl ?_
            refine fr_getr (a := 71) (pc := 84) dX4_readBlock_84 rfl pf_4_9 s0_71 rfl rf_71_0 ?_
            refine fr_bipush (pc := 87) dX4_readBlock_87 (by decide) ?_
            refine fr_inVV (a := 70) (as := [(0, 125)]) (rest := []) (ls' := [(2, 70), (0, 125)]) (c1 := 0) (c2 := 0) (pc := 89) dX4_readBlock_89 pl_4_67 rfl ⟨Nat.le_of_ble_eq_true rfl, Nat.le_of_ble_eq_true rfl⟩ rfl rfl rfl s0_70 (Nat.le_of_ble_eq_true rfl) (by omega) rfl rfl (pm_zc _) (hq sc _ (by omega)) (fun M5 hq => ?_)
            exact fr_vret (pc := 92) dX4_readBlock_92 rfl hq
          · refine fr_iconst (pc := 20) dX7_isMark_20 (by decide) ?_
            refine fr_iret (pc := 21) dX7_isMark_21 (Or.inr (Or.inl ⟨rfl, Or.inl rfl⟩)) ?_
            refine fr_ifcF (tg := 83) (pc := 65) dX4_readBlock_65 rfl rfl ?_
            refine fr_aload_n (pc := 68) dX4_readBlock_68 rfl rfl ?_
            refine fr_iload_n (pc := 69) dX4_readBlock_69 rfl rfl ?_
            refine fr_iload_n (pc := 70) dX4_readBlock_70 rfl rfl ?_
            refine fr_iload_n (pc := 71) dX4_readBlock_71 rfl rfl ?_
            refine fr_iconst (pc := 72) dX4_readBlock_72 (by decide) ?_
            refine fr_iadd (z := w32 (l3 + 1)) (pc := 73) dX4_readBlock_73 rfl ?_
            refine fr_inVV (a := 71) (as := [(0, l1), (0, l2), (0, w32 (l3 + 1))]) (rest := []) (ls' := [(2, 71), (0, l1), (0, l2), (0, w32 (l3 + 1)), (9, 0), (9, 0)]) (c1 := 0) (c2 := 0) (pc := 74) dX4_readBlock_74 pl_4_30 rfl ⟨Nat.le_of_ble_eq_true rfl, Nat.le_of_ble_eq_true rfl⟩ rfl rfl rfl s0_71 (Nat.le_of_ble_eq_true rfl) (by omega) rfl rfl (pm_zc _) (hq sc _ (by omega)) (fun M7 hq => ?_)
            refine fr_iinc (z := w32 (l4 + 1)) (ls2 := [(2, 71), (0, l1), (0, l2), (0, l3), (0, w32 (l4 + 1))]) (pc := 77) dX4_readBlock_77 (Nat.le_of_ble_eq_true rfl) rfl rfl rfl ?_
            refine fr_goto (tg := 38) (pc := 80) dX4_readBlock_80 rfl ?_
            exact hq sc d hd
        · refine fr_iconst (pc := 20) dX7_isMark_20 (by decide) ?_
          refine fr_iret (pc := 21) dX7_isMark_21 (Or.inr (Or.inl ⟨rfl, Or.inl rfl⟩)) ?_
          refine fr_ifcF (tg := 83) (pc := 65) dX4_readBlock_65 rfl rfl ?_
          refine fr_aload_n (pc := 68) dX4_readBlock_68 rfl rfl ?_
          refine fr_iload_n (pc := 69) dX4_readBlock_69 rfl rfl ?_
          refine fr_iload_n (pc := 70) dX4_readBlock_70 rfl rfl ?_
          refine fr_iload_n (pc := 71) dX4_readBlock_71 rfl rfl ?_
          refine fr_iconst (pc := 72) dX4_readBlock_72 (by decide) ?_
          refine fr_iadd (z := w32 (l3 + 1)) (pc := 73) dX4_readBlock_73 rfl ?_
          refine fr_inVV (a := 71) (as := [(0, l1), (0, l2), (0, w32 (l3 + 1))]) (rest := []) (ls' := [(2, 71), (0, l1), (0, l2), (0, w32 (l3 + 1)), (9, 0), (9, 0)]) (c1 := 0) (c2 := 0) (pc := 74) dX4_readBlock_74 pl_4_30 rfl ⟨Nat.le_of_ble_eq_true rfl, Nat.le_of_ble_eq_true rfl⟩ rfl rfl rfl s0_71 (Nat.le_of_ble_eq_true rfl) (by omega) rfl rfl (pm_zc _) (hq sc _ (by omega)) (fun M9 hq => ?_)
          refine fr_iinc (z := w32 (l4 + 1)) (ls2 := [(2, 71), (0, l1), (0, l2), (0, l3), (0, w32 (l4 + 1))]) (pc := 77) dX4_readBlock_77 (Nat.le_of_ble_eq_true rfl) rfl rfl rfl ?_
          refine fr_goto (tg := 38) (pc := 80) dX4_readBlock_80 rfl ?_
          exact hq sc d hd
      · refine fr_aload_n (pc := 83) dX4_readBlock_83 rfl rfl ?_
        refine fr_getr (a := 71) (pc := 84) dX4_readBlock_84 rfl pf_4_9 s0_71 rfl rf_71_0 ?_
        refine fr_bipush (pc := 87) dX4_readBlock_87 (by decide) ?_
        refine fr_inVV (a := 70) (as := [(0, 125)]) (rest := []) (ls' := [(2, 70), (0, 125)]) (c1 := 0) (c2 := 0) (pc := 89) dX4_readBlock_89 pl_4_67 rfl ⟨Nat.le_of_ble_eq_true rfl, Nat.le_of_ble_eq_true rfl⟩ rfl rfl rfl s0_70 (Nat.le_of_ble_eq_true rfl) (by omega) rfl rfl (pm_zc _) (hq sc _ (by omega)) (fun M11 hq => ?_)
        exact fr_vret (pc := 92) dX4_readBlock_92 rfl hq
    · refine fr_aload_n (pc := 83) dX4_readBlock_83 rfl rfl ?_
      refine fr_getr (a := 71) (pc := 84) dX4_readBlock_84 rfl pf_4_9 s0_71 rfl rf_71_0 ?_
      refine fr_bipush (pc := 87) dX4_readBlock_87 (by decide) ?_
      refine fr_inVV (a := 70) (as := [(0, 125)]) (rest := []) (ls' := [(2, 70), (0, 125)]) (c1 := 0) (c2 := 0) (pc := 89) dX4_readBlock_89 pl_4_67 rfl ⟨Nat.le_of_ble_eq_true rfl, Nat.le_of_ble_eq_true rfl⟩ rfl rfl rfl s0_70 (Nat.le_of_ble_eq_true rfl) (by omega) rfl rfl (pm_zc _) (hq sc _ (by omega)) (fun M13 hq => ?_)
      exact fr_vret (pc := 92) dX4_readBlock_92 rfl hq
  · refine fr_iload (pc := 38) dX4_readBlock_38 rfl rfl ?_
    refine fr_sipush (pc := 40) dX4_readBlock_40 (by decide) ?_
    refine fr_icm_ge (tg := 83) (pc := 43) dX4_readBlock_43 rfl hq (fun hc1 hq => ?_) (fun hc1 hq => ?_)
    · refine fr_aload_n (pc := 46) dX4_readBlock_46 rfl rfl ?_
      refine fr_getr (a := 71) (pc := 47) dX4_readBlock_47 rfl pf_4_9 s0_71 rfl rf_71_0 ?_
      refine fr_getf (a := 70) (i := 6) (v := gI M 70 6) (t := 0) (pc := 50) dX4_readBlock_50 rfl pf_4_34 rfl s0_70 rfl rfl ?_
      refine fr_ifc_ne (tg := 83) (pc := 53) dX4_readBlock_53 rfl hq (fun hc2 hq => ?_) (fun hc2 hq => ?_)
      · refine fr_aload_n (pc := 56) dX4_readBlock_56 rfl rfl ?_
        refine fr_getr (a := 71) (pc := 57) dX4_readBlock_57 rfl pf_4_9 s0_71 rfl rf_71_0 ?_
        refine fr_bipush (pc := 60) dX4_readBlock_60 (by decide) ?_
        refine fr_inVI (a := 70) (as := [(0, 125)]) (rest := []) (ls' := [(2, 70), (0, 125)]) (c1 := 0) (c2 := 0) (pc := 62) dX4_readBlock_62 pl_4_90 rfl ⟨Nat.le_of_ble_eq_true rfl, Nat.le_of_ble_eq_true rfl⟩ rfl rfl rfl s0_70 (Nat.le_of_ble_eq_true rfl) (by omega) rfl rfl (pm_zc _) ?_ (fun y M' h => h)
        refine fr_aload_n (pc := 0) dX7_isMark_0 rfl rfl ?_
        refine fr_getf (a := 70) (i := 4) (v := gI M 70 4) (t := 0) (pc := 1) dX7_isMark_1 rfl pf_7_40 rfl s0_70 rfl rfl ?_
        refine fr_iconst (pc := 4) dX7_isMark_4 (by decide) ?_
        refine fr_icm_ne (tg := 20) (pc := 5) dX7_isMark_5 rfl hq (fun hc3 hq => ?_) (fun hc3 hq => ?_)
        · refine fr_aload_n (pc := 8) dX7_isMark_8 rfl rfl ?_
          refine fr_getf (a := 70) (i := 5) (v := gI M 70 5) (t := 0) (pc := 9) dX7_isMark_9 rfl pf_7_43 rfl s0_70 rfl rfl ?_
          refine fr_iload_n (pc := 12) dX7_isMark_12 rfl rfl ?_
          refine fr_icm_ne (tg := 20) (pc := 13) dX7_isMark_13 rfl hq (fun hc4 hq => ?_) (fun hc4 hq => ?_)
          · refine fr_iconst (pc := 16) dX7_isMark_16 (by decide) ?_
            refine fr_goto (tg := 21) (pc := 17) dX7_isMark_17 rfl ?_
            refine fr_iret (pc := 21) dX7_isMark_21 (Or.inr (Or.inl ⟨rfl, Or.inr rfl⟩)) ?_
            refine fr_ifcT (tg := 83) (pc := 65) dX4_readBlock_65 rfl rfl ?_
            refine fr_aload_n (pc := 83) dX4_readBlock_83 rfl rfl ?_
            refine fr_getr (a := 71) (pc := 84) dX4_readBlock_84 rfl pf_4_9 s0_71 rfl rf_71_0 ?_
            refine fr_bipush (pc := 87) dX4_readBlock_87 (by decide) ?_
            refine fr_inVV (a := 70) (as := [(0, 125)]) (rest := []) (ls' := [(2, 70), (0, 125)]) (c1 := 0) (c2 := 0) (pc := 89) dX4_readBlock_89 pl_4_67 rfl ⟨Nat.le_of_ble_eq_true rfl, Nat.le_of_ble_eq_true rfl⟩ rfl rfl rfl s0_70 (Nat.le_of_ble_eq_true rfl) (by omega) rfl rfl (pm_zc _) (hq sc _ (by omega)) (fun M5 hq => ?_)
            exact fr_vret (pc := 92) dX4_readBlock_92 rfl hq
          · refine fr_iconst (pc := 20) dX7_isMark_20 (by decide) ?_
            refine fr_iret (pc := 21) dX7_isMark_21 (Or.inr (Or.inl ⟨rfl, Or.inl rfl⟩)) ?_
            refine fr_ifcF (tg := 83) (pc := 65) dX4_readBlock_65 rfl rfl ?_
            refine fr_aload_n (pc := 68) dX4_readBlock_68 rfl rfl ?_
            refine fr_iload_n (pc := 69) dX4_readBlock_69 rfl rfl ?_
            refine fr_iload_n (pc := 70) dX4_readBlock_70 rfl rfl ?_
            refine fr_iload_n (pc := 71) dX4_readBlock_71 rfl rfl ?_
            refine fr_iconst (pc := 72) dX4_readBlock_72 (by decide) ?_
            refine fr_iadd (z := w32 (l3 + 1)) (pc := 73) dX4_readBlock_73 rfl ?_
            refine fr_inVV (a := 71) (as := [(0, l1), (0, l2), (0, w32 (l3 + 1))]) (rest := []) (ls' := [(2, 71), (0, l1), (0, l2), (0, w32 (l3 + 1)), (9, 0), (9, 0)]) (c1 := 0) (c2 := 0) (pc := 74) dX4_readBlock_74 pl_4_30 rfl ⟨Nat.le_of_ble_eq_true rfl, Nat.le_of_ble_eq_true rfl⟩ rfl rfl rfl s0_71 (Nat.le_of_ble_eq_true rfl) (by omega) rfl rfl (pm_zc _) (hq sc _ (by omega)) (fun M7 hq => ?_)
            refine fr_iinc (z := w32 (l4 + 1)) (ls2 := [(2, 71), (0, l1), (0, l2), (0, l3), (0, w32 (l4 + 1))]) (pc := 77) dX4_readBlock_77 (Nat.le_of_ble_eq_true rfl) rfl rfl rfl ?_
            refine fr_goto (tg := 38) (pc := 80) dX4_readBlock_80 rfl ?_
            exact hq sc d hd
        · refine fr_iconst (pc := 20) dX7_isMark_20 (by decide) ?_
          refine fr_iret (pc := 21) dX7_isMark_21 (Or.inr (Or.inl ⟨rfl, Or.inl rfl⟩)) ?_
          refine fr_ifcF (tg := 83) (pc := 65) dX4_readBlock_65 rfl rfl ?_
          refine fr_aload_n (pc := 68) dX4_readBlock_68 rfl rfl ?_
          refine fr_iload_n (pc := 69) dX4_readBlock_69 rfl rfl ?_
          refine fr_iload_n (pc := 70) dX4_readBlock_70 rfl rfl ?_
          refine fr_iload_n (pc := 71) dX4_readBlock_71 rfl rfl ?_
          refine fr_iconst (pc := 72) dX4_readBlock_72 (by decide) ?_
          refine fr_iadd (z := w32 (l3 + 1)) (pc := 73) dX4_readBlock_73 rfl ?_
          refine fr_inVV (a := 71) (as := [(0, l1), (0, l2), (0, w32 (l3 + 1))]) (rest := []) (ls' := [(2, 71), (0, l1), (0, l2), (0, w32 (l3 + 1)), (9, 0), (9, 0)]) (c1 := 0) (c2 := 0) (pc := 74) dX4_readBlock_74 pl_4_30 rfl ⟨Nat.le_of_ble_eq_true rfl, Nat.le_of_ble_eq_true rfl⟩ rfl rfl rfl s0_71 (Nat.le_of_ble_eq_true rfl) (by omega) rfl rfl (pm_zc _) (hq sc _ (by omega)) (fun M9 hq => ?_)
          refine fr_iinc (z := w32 (l4 + 1)) (ls2 := [(2, 71), (0, l1), (0, l2), (0, l3), (0, w32 (l4 + 1))]) (pc := 77) dX4_readBlock_77 (Nat.le_of_ble_eq_true rfl) rfl rfl rfl ?_
          refine fr_goto (tg := 38) (pc := 80) dX4_readBlock_80 rfl ?_
          exact hq sc d hd
      · refine fr_aload_n (pc := 83) dX4_readBlock_83 rfl rfl ?_
        refine fr_getr (a := 71) (pc := 84) dX4_readBlock_84 rfl pf_4_9 s0_71 rfl rf_71_0 ?_
        refine fr_bipush (pc := 87) dX4_readBlock_87 (by decide) ?_
        refine fr_inVV (a := 70) (as := [(0, 125)]) (rest := []) (ls' := [(2, 70), (0, 125)]) (c1 := 0) (c2 := 0) (pc := 89) dX4_readBlock_89 pl_4_67 rfl ⟨Nat.le_of_ble_eq_true rfl, Nat.le_of_ble_eq_true rfl⟩ rfl rfl rfl s0_70 (Nat.le_of_ble_eq_true rfl) (by omega) rfl rfl (pm_zc _) (hq sc _ (by omega)) (fun M11 hq => ?_)
        exact fr_vret (pc := 92) dX4_readBlock_92 rfl hq
    · refine fr_aload_n (pc := 83) dX4_readBlock_83 rfl rfl ?_
      refine fr_getr (a := 71) (pc := 84) dX4_readBlock_84 rfl pf_4_9 s0_71 rfl rf_71_0 ?_
      refine fr_bipush (pc := 87) dX4_readBlock_87 (by decide) ?_
      refine fr_inVV (a := 70) (as := [(0, 125)]) (rest := []) (ls' := [(2, 70), (0, 125)]) (c1 := 0) (c2 := 0) (pc := 89) dX4_readBlock_89 pl_4_67 rfl ⟨Nat.le_of_ble_eq_true rfl, Nat.le_of_ble_eq_true rfl⟩ rfl rfl rfl s0_70 (Nat.le_of_ble_eq_true rfl) (by omega) rfl rfl (pm_zc _) (hq sc _ (by omega)) (fun M13 hq => ?_)
      exact fr_vret (pc := 92) dX4_readBlock_92 rfl hq
theorem k0_link_r {o : Nat} {M : pm_M} {K : pm_M → Prop} (ho : o = 2 ∨ o = 36) (hq : k0_link_2 o 0 M K) : k0_link o M K := by
  intro sc d hd
  rcases ho with rfl | rfl
  · refine fr_iconst (pc := 0) dX0_link_0 (by decide) ?_
    refine fr_istore_n (ls2 := [(2, 2), (0, 0), (9, 0)]) (pc := 1) dX0_link_1 rfl (Nat.le_of_ble_eq_true rfl) rfl ?_
    exact hq sc d hd (9, 0) pm_t9
  · refine fr_iconst (pc := 0) dX0_link_0 (by decide) ?_
    refine fr_istore_n (ls2 := [(2, 36), (0, 0), (9, 0)]) (pc := 1) dX0_link_1 rfl (Nat.le_of_ble_eq_true rfl) rfl ?_
    exact hq sc d hd (9, 0) pm_t9
theorem k0_link_2_r {o : Nat} {l1 : Int} {M : pm_M} {K : pm_M → Prop} (ho : o = 2 ∨ o = 36) (hq : (if l1 < gI M o 16 then ((0 ≤ l1 ∧ l1 < 20) ∧ (if w32 (l1 + 1) < gI M o 16 then ((0 ≤ w32 (l1 + 1) ∧ w32 (l1 + 1) < 20) ∧ ((0 ≤ gI M (o + 12) l1 ∧ gI M (o + 12) l1 < 60) ∧ k0_linkExpression o (gI M (o + 12) l1) (upI (upI M (o + 7) (gI M (o + 12) l1) (w32 ((gI M (o + 12) (w32 (l1 + 1))) - 1))) (o + 5) (gI M (o + 12) l1) (gI M (o + 12) l1)) (fun M6 => k0_linkWays o (gI M (o + 12) l1) M6 (fun M8 => k0_link_2 o (w32 (l1 + 1)) M8 K)))) else ((0 ≤ gI M (o + 12) l1 ∧ gI M (o + 12) l1 < 60) ∧ k0_linkExpression o (gI M (o + 12) l1) (upI (upI M (o + 7) (gI M (o + 12) l1) (w32 ((gI M o 15) - 1))) (o + 5) (gI M (o + 12) l1) (gI M (o + 12) l1)) (fun M11 => k0_linkWays o (gI M (o + 12) l1) M11 (fun M13 => k0_link_2 o (w32 (l1 + 1)) M13 K))))) else K M)) : k0_link_2 o l1 M K := by
  intro sc d hd z2 hz2
  rcases ho with rfl | rfl
  · refine fr_iload_n (pc := 2) dX0_link_2 rfl rfl ?_
    refine fr_aload_n (pc := 3) dX0_link_3 rfl rfl ?_
    refine fr_getf (a := 2) (i := 16) (v := gI M 2 16) (t := 0) (pc := 4) dX0_link_4 rfl pf_0_61 rfl s0_2 rfl rfl ?_
    refine fr_icm_ge (tg := 73) (pc := 7) dX0_link_7 rfl hq (fun hc1 hq => ?_) (fun hc1 hq => ?_)
    · refine fr_aload_n (pc := 10) dX0_link_10 rfl rfl ?_
      refine fr_getr (a := 2) (pc := 11) dX0_link_11 rfl pf_0_45 s0_2 rfl rf_2_11 ?_
      refine fr_iload_n (pc := 14) dX0_link_14 rfl rfl ?_
      obtain ⟨hb2, hq⟩ := hq
      refine fr_iaload (a := 14) (v := gI M (2 + 12) l1) (pc := 15) dX0_link_15 rfl s0_14 hb2 rfl ?_
      refine fr_istore_n (ls2 := [(2, 2), (0, l1), (0, gI M (2 + 12) l1)]) (pc := 16) dX0_link_16 rfl (Nat.le_of_ble_eq_true rfl) rfl ?_
      refine fr_aload_n (pc := 17) dX0_link_17 rfl rfl ?_
      refine fr_getr (a := 2) (pc := 18) dX0_link_18 rfl pf_0_30 s0_2 rfl rf_2_6 ?_
      refine fr_iload_n (pc := 21) dX0_link_21 rfl rfl ?_
      refine fr_iload_n (pc := 22) dX0_link_22 rfl rfl ?_
      refine fr_iconst (pc := 23) dX0_link_23 (by decide) ?_
      refine fr_iadd (z := w32 (l1 + 1)) (pc := 24) dX0_link_24 rfl ?_
      refine fr_aload_n (pc := 25) dX0_link_25 rfl rfl ?_
      refine fr_getf (a := 2) (i := 16) (v := gI M 2 16) (t := 0) (pc := 26) dX0_link_26 rfl pf_0_61 rfl s0_2 rfl rfl ?_
      refine fr_icm_ge (tg := 43) (pc := 29) dX0_link_29 rfl hq (fun hc3 hq => ?_) (fun hc3 hq => ?_)
      · refine fr_aload_n (pc := 32) dX0_link_32 rfl rfl ?_
        refine fr_getr (a := 2) (pc := 33) dX0_link_33 rfl pf_0_45 s0_2 rfl rf_2_11 ?_
        refine fr_iload_n (pc := 36) dX0_link_36 rfl rfl ?_
        refine fr_iconst (pc := 37) dX0_link_37 (by decide) ?_
        refine fr_iadd (z := w32 (l1 + 1)) (pc := 38) dX0_link_38 rfl ?_
        obtain ⟨hb4, hq⟩ := hq
        refine fr_iaload (a := 14) (v := gI M (2 + 12) (w32 (l1 + 1))) (pc := 39) dX0_link_39 rfl s0_14 hb4 rfl ?_
        refine fr_goto (tg := 47) (pc := 40) dX0_link_40 rfl ?_
        refine fr_iconst (pc := 47) dX0_link_47 (by decide) ?_
        refine fr_isub (z := w32 ((gI M (2 + 12) (w32 (l1 + 1))) - 1)) (pc := 48) dX0_link_48 rfl ?_
        obtain ⟨hb5, hq⟩ := hq
        refine fr_iastore (a := 9) (pc := 49) dX0_link_49 rfl s0_9 hb5 nr_9 ?_
        refine fr_aload_n (pc := 50) dX0_link_50 rfl rfl ?_
        refine fr_getr (a := 2) (pc := 51) dX0_link_51 rfl pf_0_24 s0_2 rfl rf_2_4 ?_
        refine fr_iload_n (pc := 54) dX0_link_54 rfl rfl ?_
        refine fr_iload_n (pc := 55) dX0_link_55 rfl rfl ?_
        refine fr_iastore (a := 7) (pc := 56) dX0_link_56 rfl s0_7 hb5 nr_7 ?_
        refine fr_aload_n (pc := 57) dX0_link_57 rfl rfl ?_
        refine fr_iload_n (pc := 58) dX0_link_58 rfl rfl ?_
        refine fr_inVV (a := 2) (as := [(0, gI M (2 + 12) l1)]) (rest := []) (ls' := [(2, 2), (0, gI M (2 + 12) l1), (9, 0)]) (c1 := 0) (c2 := 0) (pc := 59) dX0_link_59 pl_0_86 rfl ⟨Nat.le_of_ble_eq_true rfl, Nat.le_of_ble_eq_true rfl⟩ rfl rfl rfl s0_2 (Nat.le_of_ble_eq_true rfl) (by omega) rfl rfl (pm_zc _) (hq sc _ (by omega)) (fun M6 hq => ?_)
        refine fr_aload_n (pc := 62) dX0_link_62 rfl rfl ?_
        refine fr_iload_n (pc := 63) dX0_link_63 rfl rfl ?_
        refine fr_inVV (a := 2) (as := [(0, gI M (2 + 12) l1)]) (rest := []) (ls' := [(2, 2), (0, gI M (2 + 12) l1), (9, 0), (9, 0), (9, 0), (9, 0)]) (c1 := 0) (c2 := 0) (pc := 64) dX0_link_64 pl_0_90 rfl ⟨Nat.le_of_ble_eq_true rfl, Nat.le_of_ble_eq_true rfl⟩ rfl rfl rfl s0_2 (Nat.le_of_ble_eq_true rfl) (by omega) rfl rfl (pm_zc _) (hq sc _ (by omega)) (fun M8 hq => ?_)
        refine fr_iinc (z := w32 (l1 + 1)) (ls2 := [(2, 2), (0, w32 (l1 + 1)), (0, gI M (2 + 12) l1)]) (pc := 67) dX0_link_67 (Nat.le_of_ble_eq_true rfl) rfl rfl rfl ?_
        refine fr_goto (tg := 2) (pc := 70) dX0_link_70 rfl ?_
        exact hq sc d hd (0, gI M (2 + 12) l1) pm_t0
      · refine fr_aload_n (pc := 43) dX0_link_43 rfl rfl ?_
        refine fr_getf (a := 2) (i := 15) (v := gI M 2 15) (t := 0) (pc := 44) dX0_link_44 rfl pf_0_57 rfl s0_2 rfl rfl ?_
        refine fr_iconst (pc := 47) dX0_link_47 (by decide) ?_
        refine fr_isub (z := w32 ((gI M 2 15) - 1)) (pc := 48) dX0_link_48 rfl ?_
        obtain ⟨hb10, hq⟩ := hq
        refine fr_iastore (a := 9) (pc := 49) dX0_link_49 rfl s0_9 hb10 nr_9 ?_
        refine fr_aload_n (pc := 50) dX0_link_50 rfl rfl ?_
        refine fr_getr (a := 2) (pc := 51) dX0_link_51 rfl pf_0_24 s0_2 rfl rf_2_4 ?_
        refine fr_iload_n (pc := 54) dX0_link_54 rfl rfl ?_
        refine fr_iload_n (pc := 55) dX0_link_55 rfl rfl ?_
        refine fr_iastore (a := 7) (pc := 56) dX0_link_56 rfl s0_7 hb10 nr_7 ?_
        refine fr_aload_n (pc := 57) dX0_link_57 rfl rfl ?_
        refine fr_iload_n (pc := 58) dX0_link_58 rfl rfl ?_
        refine fr_inVV (a := 2) (as := [(0, gI M (2 + 12) l1)]) (rest := []) (ls' := [(2, 2), (0, gI M (2 + 12) l1), (9, 0)]) (c1 := 0) (c2 := 0) (pc := 59) dX0_link_59 pl_0_86 rfl ⟨Nat.le_of_ble_eq_true rfl, Nat.le_of_ble_eq_true rfl⟩ rfl rfl rfl s0_2 (Nat.le_of_ble_eq_true rfl) (by omega) rfl rfl (pm_zc _) (hq sc _ (by omega)) (fun M11 hq => ?_)
        refine fr_aload_n (pc := 62) dX0_link_62 rfl rfl ?_
        refine fr_iload_n (pc := 63) dX0_link_63 rfl rfl ?_
        refine fr_inVV (a := 2) (as := [(0, gI M (2 + 12) l1)]) (rest := []) (ls' := [(2, 2), (0, gI M (2 + 12) l1), (9, 0), (9, 0), (9, 0), (9, 0)]) (c1 := 0) (c2 := 0) (pc := 64) dX0_link_64 pl_0_90 rfl ⟨Nat.le_of_ble_eq_true rfl, Nat.le_of_ble_eq_true rfl⟩ rfl rfl rfl s0_2 (Nat.le_of_ble_eq_true rfl) (by omega) rfl rfl (pm_zc _) (hq sc _ (by omega)) (fun M13 hq => ?_)
        refine fr_iinc (z := w32 (l1 + 1)) (ls2 := [(2, 2), (0, w32 (l1 + 1)), (0, gI M (2 + 12) l1)]) (pc := 67) dX0_link_67 (Nat.le_of_ble_eq_true rfl) rfl rfl rfl ?_
        refine fr_goto (tg := 2) (pc := 70) dX0_link_70 rfl ?_
        exact hq sc d hd (0, gI M (2 + 12) l1) pm_t0
    · exact fr_vret (pc := 73) dX0_link_73 rfl hq
  · refine fr_iload_n (pc := 2) dX0_link_2 rfl rfl ?_
    refine fr_aload_n (pc := 3) dX0_link_3 rfl rfl ?_
    refine fr_getf (a := 36) (i := 16) (v := gI M 36 16) (t := 0) (pc := 4) dX0_link_4 rfl pf_0_61 rfl s0_36 rfl rfl ?_
    refine fr_icm_ge (tg := 73) (pc := 7) dX0_link_7 rfl hq (fun hc1 hq => ?_) (fun hc1 hq => ?_)
    · refine fr_aload_n (pc := 10) dX0_link_10 rfl rfl ?_
      refine fr_getr (a := 36) (pc := 11) dX0_link_11 rfl pf_0_45 s0_36 rfl rf_36_11 ?_
      refine fr_iload_n (pc := 14) dX0_link_14 rfl rfl ?_
      obtain ⟨hb2, hq⟩ := hq
      refine fr_iaload (a := 48) (v := gI M (36 + 12) l1) (pc := 15) dX0_link_15 rfl s0_48 hb2 rfl ?_
      refine fr_istore_n (ls2 := [(2, 36), (0, l1), (0, gI M (36 + 12) l1)]) (pc := 16) dX0_link_16 rfl (Nat.le_of_ble_eq_true rfl) rfl ?_
      refine fr_aload_n (pc := 17) dX0_link_17 rfl rfl ?_
      refine fr_getr (a := 36) (pc := 18) dX0_link_18 rfl pf_0_30 s0_36 rfl rf_36_6 ?_
      refine fr_iload_n (pc := 21) dX0_link_21 rfl rfl ?_
      refine fr_iload_n (pc := 22) dX0_link_22 rfl rfl ?_
      refine fr_iconst (pc := 23) dX0_link_23 (by decide) ?_
      refine fr_iadd (z := w32 (l1 + 1)) (pc := 24) dX0_link_24 rfl ?_
      refine fr_aload_n (pc := 25) dX0_link_25 rfl rfl ?_
      refine fr_getf (a := 36) (i := 16) (v := gI M 36 16) (t := 0) (pc := 26) dX0_link_26 rfl pf_0_61 rfl s0_36 rfl rfl ?_
      refine fr_icm_ge (tg := 43) (pc := 29) dX0_link_29 rfl hq (fun hc3 hq => ?_) (fun hc3 hq => ?_)
      · refine fr_aload_n (pc := 32) dX0_link_32 rfl rfl ?_
        refine fr_getr (a := 36) (pc := 33) dX0_link_33 rfl pf_0_45 s0_36 rfl rf_36_11 ?_
        refine fr_iload_n (pc := 36) dX0_link_36 rfl rfl ?_
        refine fr_iconst (pc := 37) dX0_link_37 (by decide) ?_
        refine fr_iadd (z := w32 (l1 + 1)) (pc := 38) dX0_link_38 rfl ?_
        obtain ⟨hb4, hq⟩ := hq
        refine fr_iaload (a := 48) (v := gI M (36 + 12) (w32 (l1 + 1))) (pc := 39) dX0_link_39 rfl s0_48 hb4 rfl ?_
        refine fr_goto (tg := 47) (pc := 40) dX0_link_40 rfl ?_
        refine fr_iconst (pc := 47) dX0_link_47 (by decide) ?_
        refine fr_isub (z := w32 ((gI M (36 + 12) (w32 (l1 + 1))) - 1)) (pc := 48) dX0_link_48 rfl ?_
        obtain ⟨hb5, hq⟩ := hq
        refine fr_iastore (a := 43) (pc := 49) dX0_link_49 rfl s0_43 hb5 nr_43 ?_
        refine fr_aload_n (pc := 50) dX0_link_50 rfl rfl ?_
        refine fr_getr (a := 36) (pc := 51) dX0_link_51 rfl pf_0_24 s0_36 rfl rf_36_4 ?_
        refine fr_iload_n (pc := 54) dX0_link_54 rfl rfl ?_
        refine fr_iload_n (pc := 55) dX0_link_55 rfl rfl ?_
        refine fr_iastore (a := 41) (pc := 56) dX0_link_56 rfl s0_41 hb5 nr_41 ?_
        refine fr_aload_n (pc := 57) dX0_link_57 rfl rfl ?_
        refine fr_iload_n (pc := 58) dX0_link_58 rfl rfl ?_
        refine fr_inVV (a := 36) (as := [(0, gI M (36 + 12) l1)]) (rest := []) (ls' := [(2, 36), (0, gI M (36 + 12) l1), (9, 0)]) (c1 := 0) (c2 := 0) (pc := 59) dX0_link_59 pl_0_86 rfl ⟨Nat.le_of_ble_eq_true rfl, Nat.le_of_ble_eq_true rfl⟩ rfl rfl rfl s0_36 (Nat.le_of_ble_eq_true rfl) (by omega) rfl rfl (pm_zc _) (hq sc _ (by omega)) (fun M6 hq => ?_)
        refine fr_aload_n (pc := 62) dX0_link_62 rfl rfl ?_
        refine fr_iload_n (pc := 63) dX0_link_63 rfl rfl ?_
        refine fr_inVV (a := 36) (as := [(0, gI M (36 + 12) l1)]) (rest := []) (ls' := [(2, 36), (0, gI M (36 + 12) l1), (9, 0), (9, 0), (9, 0), (9, 0)]) (c1 := 0) (c2 := 0) (pc := 64) dX0_link_64 pl_0_90 rfl ⟨Nat.le_of_ble_eq_true rfl, Nat.le_of_ble_eq_true rfl⟩ rfl rfl rfl s0_36 (Nat.le_of_ble_eq_true rfl) (by omega) rfl rfl (pm_zc _) (hq sc _ (by omega)) (fun M8 hq => ?_)
        refine fr_iinc (z := w32 (l1 + 1)) (ls2 := [(2, 36), (0, w32 (l1 + 1)), (0, gI M (36 + 12) l1)]) (pc := 67) dX0_link_67 (Nat.le_of_ble_eq_true rfl) rfl rfl rfl ?_
        refine fr_goto (tg := 2) (pc := 70) dX0_link_70 rfl ?_
        exact hq sc d hd (0, gI M (36 + 12) l1) pm_t0
      · refine fr_aload_n (pc := 43) dX0_link_43 rfl rfl ?_
        refine fr_getf (a := 36) (i := 15) (v := gI M 36 15) (t := 0) (pc := 44) dX0_link_44 rfl pf_0_57 rfl s0_36 rfl rfl ?_
        refine fr_iconst (pc := 47) dX0_link_47 (by decide) ?_
        refine fr_isub (z := w32 ((gI M 36 15) - 1)) (pc := 48) dX0_link_48 rfl ?_
        obtain ⟨hb10, hq⟩ := hq
        refine fr_iastore (a := 43) (pc := 49) dX0_link_49 rfl s0_43 hb10 nr_43 ?_
        refine fr_aload_n (pc := 50) dX0_link_50 rfl rfl ?_
        refine fr_getr (a := 36) (pc := 51) dX0_link_51 rfl pf_0_24 s0_36 rfl rf_36_4 ?_
        refine fr_iload_n (pc := 54) dX0_link_54 rfl rfl ?_
        refine fr_iload_n (pc := 55) dX0_link_55 rfl rfl ?_
        refine fr_iastore (a := 41) (pc := 56) dX0_link_56 rfl s0_41 hb10 nr_41 ?_
        refine fr_aload_n (pc := 57) dX0_link_57 rfl rfl ?_
        refine fr_iload_n (pc := 58) dX0_link_58 rfl rfl ?_
        refine fr_inVV (a := 36) (as := [(0, gI M (36 + 12) l1)]) (rest := []) (ls' := [(2, 36), (0, gI M (36 + 12) l1), (9, 0)]) (c1 := 0) (c2 := 0) (pc := 59) dX0_link_59 pl_0_86 rfl ⟨Nat.le_of_ble_eq_true rfl, Nat.le_of_ble_eq_true rfl⟩ rfl rfl rfl s0_36 (Nat.le_of_ble_eq_true rfl) (by omega) rfl rfl (pm_zc _) (hq sc _ (by omega)) (fun M11 hq => ?_)
        refine fr_aload_n (pc := 62) dX0_link_62 rfl rfl ?_
        refine fr_iload_n (pc := 63) dX0_link_63 rfl rfl ?_
        refine fr_inVV (a := 36) (as := [(0, gI M (36 + 12) l1)]) (rest := []) (ls' := [(2, 36), (0, gI M (36 + 12) l1), (9, 0), (9, 0), (9, 0), (9, 0)]) (c1 := 0) (c2 := 0) (pc := 64) dX0_link_64 pl_0_90 rfl ⟨Nat.le_of_ble_eq_true rfl, Nat.le_of_ble_eq_true rfl⟩ rfl rfl rfl s0_36 (Nat.le_of_ble_eq_true rfl) (by omega) rfl rfl (pm_zc _) (hq sc _ (by omega)) (fun M13 hq => ?_)
        refine fr_iinc (z := w32 (l1 + 1)) (ls2 := [(2, 36), (0, w32 (l1 + 1)), (0, gI M (36 + 12) l1)]) (pc := 67) dX0_link_67 (Nat.le_of_ble_eq_true rfl) rfl rfl rfl ?_
        refine fr_goto (tg := 2) (pc := 70) dX0_link_70 rfl ?_
        exact hq sc d hd (0, gI M (36 + 12) l1) pm_t0
    · exact fr_vret (pc := 73) dX0_link_73 rfl hq
theorem k0_linkExpression_r {o : Nat} {a1 : Int} {M : pm_M} {K : pm_M → Prop} (ho : o = 2 ∨ o = 36) (hq : ((0 ≤ a1 ∧ a1 < 60) ∧ k0_linkExpression_7 o a1 (gI M (o + 7) a1) M K)) : k0_linkExpression o a1 M K := by
  intro sc d hd
  rcases ho with rfl | rfl
  · refine fr_aload_n (pc := 0) dX0_linkExpression_0 rfl rfl ?_
    refine fr_getr (a := 2) (pc := 1) dX0_linkExpression_1 rfl pf_0_30 s0_2 rfl rf_2_6 ?_
    refine fr_iload_n (pc := 4) dX0_linkExpression_4 rfl rfl ?_
    obtain ⟨hb1, hq⟩ := hq
    refine fr_iaload (a := 9) (v := gI M (2 + 7) a1) (pc := 5) dX0_linkExpression_5 rfl s0_9 hb1 rfl ?_
    refine fr_istore_n (ls2 := [(2, 2), (0, a1), (0, gI M (2 + 7) a1)]) (pc := 6) dX0_linkExpression_6 rfl (Nat.le_of_ble_eq_true rfl) rfl ?_
    exact hq sc d hd
  · refine fr_aload_n (pc := 0) dX0_linkExpression_0 rfl rfl ?_
    refine fr_getr (a := 36) (pc := 1) dX0_linkExpression_1 rfl pf_0_30 s0_36 rfl rf_36_6 ?_
    refine fr_iload_n (pc := 4) dX0_linkExpression_4 rfl rfl ?_
    obtain ⟨hb1, hq⟩ := hq
    refine fr_iaload (a := 43) (v := gI M (36 + 7) a1) (pc := 5) dX0_linkExpression_5 rfl s0_43 hb1 rfl ?_
    refine fr_istore_n (ls2 := [(2, 36), (0, a1), (0, gI M (36 + 7) a1)]) (pc := 6) dX0_linkExpression_6 rfl (Nat.le_of_ble_eq_true rfl) rfl ?_
    exact hq sc d hd
theorem k0_linkExpression_7_r {o : Nat} {l1 l2 : Int} {M : pm_M} {K : pm_M → Prop} (ho : o = 2 ∨ o = 36) (hq : (if l2 ≤ l1 then ((0 ≤ w32 (l1 + 1) ∧ w32 (l1 + 1) < 60) ∧ K (upI M (o + 4) (w32 (l1 + 1)) l1)) else ((0 ≤ l2 ∧ l2 < 60) ∧ (if gI M (o + 1) l2 = 6 then k0_linkExpression_48 o l1 l2 (upI (upI M (o + 5) l2 l1) (o + 7) l2 l2) K else (if gI M (o + 1) l2 = 7 then k0_linkExpression_48 o l1 l2 (upI (upI M (o + 5) l2 l1) (o + 7) l2 l2) K else k0_linkExpression_7 o l1 (w32 (l2 + (-1))) (upI (upI M (o + 5) l2 l1) (o + 7) l2 l2) K))))) : k0_linkExpression_7 o l1 l2 M K := by
  intro sc d hd
  rcases ho with rfl | rfl
  · refine fr_iload_n (pc := 7) dX0_linkExpression_7 rfl rfl ?_
    refine fr_iload_n (pc := 8) dX0_linkExpression_8 rfl rfl ?_
    refine fr_icm_le (tg := 133) (pc := 9) dX0_linkExpression_9 rfl hq (fun hc1 hq => ?_) (fun hc1 hq => ?_)
    · refine fr_aload_n (pc := 133) dX0_linkExpression_133 rfl rfl ?_
      refine fr_getr (a := 2) (pc := 134) dX0_linkExpression_134 rfl pf_0_21 s0_2 rfl rf_2_3 ?_
      refine fr_iload_n (pc := 137) dX0_linkExpression_137 rfl rfl ?_
      refine fr_iconst (pc := 138) dX0_linkExpression_138 (by decide) ?_
      refine fr_iadd (z := w32 (l1 + 1)) (pc := 139) dX0_linkExpression_139 rfl ?_
      refine fr_iload_n (pc := 140) dX0_linkExpression_140 rfl rfl ?_
      obtain ⟨hb2, hq⟩ := hq
      refine fr_iastore (a := 6) (pc := 141) dX0_linkExpression_141 rfl s0_6 hb2 nr_6 ?_
      exact fr_vret (pc := 142) dX0_linkExpression_142 rfl hq
    · refine fr_aload_n (pc := 12) dX0_linkExpression_12 rfl rfl ?_
      refine fr_getr (a := 2) (pc := 13) dX0_linkExpression_13 rfl pf_0_24 s0_2 rfl rf_2_4 ?_
      refine fr_iload_n (pc := 16) dX0_linkExpression_16 rfl rfl ?_
      refine fr_iload_n (pc := 17) dX0_linkExpression_17 rfl rfl ?_
      obtain ⟨hb3, hq⟩ := hq
      refine fr_iastore (a := 7) (pc := 18) dX0_linkExpression_18 rfl s0_7 hb3 nr_7 ?_
      refine fr_aload_n (pc := 19) dX0_linkExpression_19 rfl rfl ?_
      refine fr_getr (a := 2) (pc := 20) dX0_linkExpression_20 rfl pf_0_30 s0_2 rfl rf_2_6 ?_
      refine fr_iload_n (pc := 23) dX0_linkExpression_23 rfl rfl ?_
      refine fr_iload_n (pc := 24) dX0_linkExpression_24 rfl rfl ?_
      refine fr_iastore (a := 9) (pc := 25) dX0_linkExpression_25 rfl s0_9 hb3 nr_9 ?_
      refine fr_aload_n (pc := 26) dX0_linkExpression_26 rfl rfl ?_
      refine fr_getr (a := 2) (pc := 27) dX0_linkExpression_27 rfl pf_0_9 s0_2 rfl rf_2_0 ?_
      refine fr_iload_n (pc := 30) dX0_linkExpression_30 rfl rfl ?_
      refine fr_iaload (a := 3) (v := gI M (2 + 1) l2) (pc := 31) dX0_linkExpression_31 rfl s0_3 hb3 ((gI_ne _ _ _ _ (by decide)).trans (gI_ne _ _ _ _ (by decide))) ?_
      refine fr_bipush (pc := 32) dX0_linkExpression_32 (by decide) ?_
      refine fr_icm_eq (tg := 48) (pc := 34) dX0_linkExpression_34 rfl hq (fun hc4 hq => ?_) (fun hc4 hq => ?_)
      · exact hq sc d hd
      · refine fr_aload_n (pc := 37) dX0_linkExpression_37 rfl rfl ?_
        refine fr_getr (a := 2) (pc := 38) dX0_linkExpression_38 rfl pf_0_9 s0_2 rfl rf_2_0 ?_
        refine fr_iload_n (pc := 41) dX0_linkExpression_41 rfl rfl ?_
        refine fr_iaload (a := 3) (v := gI M (2 + 1) l2) (pc := 42) dX0_linkExpression_42 rfl s0_3 hb3 ((gI_ne _ _ _ _ (by decide)).trans (gI_ne _ _ _ _ (by decide))) ?_
        refine fr_bipush (pc := 43) dX0_linkExpression_43 (by decide) ?_
        refine fr_icm_ne (tg := 71) (pc := 45) dX0_linkExpression_45 rfl hq (fun hc5 hq => ?_) (fun hc5 hq => ?_)
        · exact hq sc d hd
        · refine fr_aload_n (pc := 71) dX0_linkExpression_71 rfl rfl ?_
          refine fr_getr (a := 2) (pc := 72) dX0_linkExpression_72 rfl pf_0_9 s0_2 rfl rf_2_0 ?_
          refine fr_iload_n (pc := 75) dX0_linkExpression_75 rfl rfl ?_
          refine fr_iaload (a := 3) (v := gI M (2 + 1) l2) (pc := 76) dX0_linkExpression_76 rfl s0_3 hb3 ((gI_ne _ _ _ _ (by decide)).trans (gI_ne _ _ _ _ (by decide))) ?_
          refine fr_bipush (pc := 77) dX0_linkExpression_77 (by decide) ?_
          refine fr_icmT (tg := 127) (pc := 79) dX0_linkExpression_79 (decide_eq_true hc5) rfl ?_
          refine fr_iinc (z := w32 (l2 + (-1))) (ls2 := [(2, 2), (0, l1), (0, w32 (l2 + (-1)))]) (pc := 127) dX0_linkExpression_127 (Nat.le_of_ble_eq_true rfl) rfl rfl rfl ?_
          refine fr_goto (tg := 7) (pc := 130) dX0_linkExpression_130 rfl ?_
          exact hq sc d hd
  · refine fr_iload_n (pc := 7) dX0_linkExpression_7 rfl rfl ?_
    refine fr_iload_n (pc := 8) dX0_linkExpression_8 rfl rfl ?_
    refine fr_icm_le (tg := 133) (pc := 9) dX0_linkExpression_9 rfl hq (fun hc1 hq => ?_) (fun hc1 hq => ?_)
    · refine fr_aload_n (pc := 133) dX0_linkExpression_133 rfl rfl ?_
      refine fr_getr (a := 36) (pc := 134) dX0_linkExpression_134 rfl pf_0_21 s0_36 rfl rf_36_3 ?_
      refine fr_iload_n (pc := 137) dX0_linkExpression_137 rfl rfl ?_
      refine fr_iconst (pc := 138) dX0_linkExpression_138 (by decide) ?_
      refine fr_iadd (z := w32 (l1 + 1)) (pc := 139) dX0_linkExpression_139 rfl ?_
      refine fr_iload_n (pc := 140) dX0_linkExpression_140 rfl rfl ?_
      obtain ⟨hb2, hq⟩ := hq
      refine fr_iastore (a := 40) (pc := 141) dX0_linkExpression_141 rfl s0_40 hb2 nr_40 ?_
      exact fr_vret (pc := 142) dX0_linkExpression_142 rfl hq
    · refine fr_aload_n (pc := 12) dX0_linkExpression_12 rfl rfl ?_
      refine fr_getr (a := 36) (pc := 13) dX0_linkExpression_13 rfl pf_0_24 s0_36 rfl rf_36_4 ?_
      refine fr_iload_n (pc := 16) dX0_linkExpression_16 rfl rfl ?_
      refine fr_iload_n (pc := 17) dX0_linkExpression_17 rfl rfl ?_
      obtain ⟨hb3, hq⟩ := hq
      refine fr_iastore (a := 41) (pc := 18) dX0_linkExpression_18 rfl s0_41 hb3 nr_41 ?_
      refine fr_aload_n (pc := 19) dX0_linkExpression_19 rfl rfl ?_
      refine fr_getr (a := 36) (pc := 20) dX0_linkExpression_20 rfl pf_0_30 s0_36 rfl rf_36_6 ?_
      refine fr_iload_n (pc := 23) dX0_linkExpression_23 rfl rfl ?_
      refine fr_iload_n (pc := 24) dX0_linkExpression_24 rfl rfl ?_
      refine fr_iastore (a := 43) (pc := 25) dX0_linkExpression_25 rfl s0_43 hb3 nr_43 ?_
      refine fr_aload_n (pc := 26) dX0_linkExpression_26 rfl rfl ?_
      refine fr_getr (a := 36) (pc := 27) dX0_linkExpression_27 rfl pf_0_9 s0_36 rfl rf_36_0 ?_
      refine fr_iload_n (pc := 30) dX0_linkExpression_30 rfl rfl ?_
      refine fr_iaload (a := 37) (v := gI M (36 + 1) l2) (pc := 31) dX0_linkExpression_31 rfl s0_37 hb3 ((gI_ne _ _ _ _ (by decide)).trans (gI_ne _ _ _ _ (by decide))) ?_
      refine fr_bipush (pc := 32) dX0_linkExpression_32 (by decide) ?_
      refine fr_icm_eq (tg := 48) (pc := 34) dX0_linkExpression_34 rfl hq (fun hc4 hq => ?_) (fun hc4 hq => ?_)
      · exact hq sc d hd
      · refine fr_aload_n (pc := 37) dX0_linkExpression_37 rfl rfl ?_
        refine fr_getr (a := 36) (pc := 38) dX0_linkExpression_38 rfl pf_0_9 s0_36 rfl rf_36_0 ?_
        refine fr_iload_n (pc := 41) dX0_linkExpression_41 rfl rfl ?_
        refine fr_iaload (a := 37) (v := gI M (36 + 1) l2) (pc := 42) dX0_linkExpression_42 rfl s0_37 hb3 ((gI_ne _ _ _ _ (by decide)).trans (gI_ne _ _ _ _ (by decide))) ?_
        refine fr_bipush (pc := 43) dX0_linkExpression_43 (by decide) ?_
        refine fr_icm_ne (tg := 71) (pc := 45) dX0_linkExpression_45 rfl hq (fun hc5 hq => ?_) (fun hc5 hq => ?_)
        · exact hq sc d hd
        · refine fr_aload_n (pc := 71) dX0_linkExpression_71 rfl rfl ?_
          refine fr_getr (a := 36) (pc := 72) dX0_linkExpression_72 rfl pf_0_9 s0_36 rfl rf_36_0 ?_
          refine fr_iload_n (pc := 75) dX0_linkExpression_75 rfl rfl ?_
          refine fr_iaload (a := 37) (v := gI M (36 + 1) l2) (pc := 76) dX0_linkExpression_76 rfl s0_37 hb3 ((gI_ne _ _ _ _ (by decide)).trans (gI_ne _ _ _ _ (by decide))) ?_
          refine fr_bipush (pc := 77) dX0_linkExpression_77 (by decide) ?_
          refine fr_icmT (tg := 127) (pc := 79) dX0_linkExpression_79 (decide_eq_true hc5) rfl ?_
          refine fr_iinc (z := w32 (l2 + (-1))) (ls2 := [(2, 36), (0, l1), (0, w32 (l2 + (-1)))]) (pc := 127) dX0_linkExpression_127 (Nat.le_of_ble_eq_true rfl) rfl rfl rfl ?_
          refine fr_goto (tg := 7) (pc := 130) dX0_linkExpression_130 rfl ?_
          exact hq sc d hd
theorem k0_linkExpression_48_r {o : Nat} {l1 l2 : Int} {M : pm_M} {K : pm_M → Prop} (ho : o = 2 ∨ o = 36) (hq : ((0 ≤ w32 (l2 + 1) ∧ w32 (l2 + 1) < 60) ∧ ((0 ≤ l2 ∧ l2 < 60) ∧ (if gI M (o + 1) l2 = 7 then ((0 ≤ w32 ((gI (upI (upI M (o + 4) (w32 (l2 + 1)) l2) (o + 7) l2 (gI M (o + 7) (w32 (l2 + 1)))) (o + 7) (w32 (l2 + 1))) + 1) ∧ w32 ((gI (upI (upI M (o + 4) (w32 (l2 + 1)) l2) (o + 7) l2 (gI M (o + 7) (w32 (l2 + 1)))) (o + 7) (w32 (l2 + 1))) + 1) < 60) ∧ k0_linkExpression_7 o l1 (w32 (l2 + (-1))) (upI (upI (upI (upI (upI M (o + 4) (w32 (l2 + 1)) l2) (o + 7) l2 (gI M (o + 7) (w32 (l2 + 1)))) (o + 6) l2 (w32 ((gI (upI (upI M (o + 4) (w32 (l2 + 1)) l2) (o + 7) l2 (gI M (o + 7) (w32 (l2 + 1)))) (o + 7) (w32 (l2 + 1))) + 1))) (o + 4) (w32 ((gI (upI (upI M (o + 4) (w32 (l2 + 1)) l2) (o + 7) l2 (gI M (o + 7) (w32 (l2 + 1)))) (o + 7) (w32 (l2 + 1))) + 1)) l2) (o + 7) l2 (gI (upI (upI M (o + 4) (w32 (l2 + 1)) l2) (o + 7) l2 (gI M (o + 7) (w32 (l2 + 1)))) (o + 7) (w32 ((gI (upI (upI M (o + 4) (w32 (l2 + 1)) l2) (o + 7) l2 (gI M (o + 7) (w32 (l2 + 1)))) (o + 7) (w32 (l2 + 1))) + 1)))) K) else k0_linkExpression_7 o l1 (w32 (l2 + (-1))) (upI (upI M (o + 4) (w32 (l2 + 1)) l2) (o + 7) l2 (gI M (o + 7) (w32 (l2 + 1)))) K)))) : k0_linkExpression_48 o l1 l2 M K := by
  intro sc d hd
  rcases ho with rfl | rfl
  · refine fr_aload_n (pc := 48) dX0_linkExpression_48 rfl rfl ?_
    refine fr_getr (a := 2) (pc := 49) dX0_linkExpression_49 rfl pf_0_21 s0_2 rfl rf_2_3 ?_
    refine fr_iload_n (pc := 52) dX0_linkExpression_52 rfl rfl ?_
    refine fr_iconst (pc := 53) dX0_linkExpression_53 (by decide) ?_
    refine fr_iadd (z := w32 (l2 + 1)) (pc := 54) dX0_linkExpression_54 rfl ?_
    refine fr_iload_n (pc := 55) dX0_linkExpression_55 rfl rfl ?_
    obtain ⟨hb1, hq⟩ := hq
    refine fr_iastore (a := 6) (pc := 56) dX0_linkExpression_56 rfl s0_6 hb1 nr_6 ?_
    refine fr_aload_n (pc := 57) dX0_linkExpression_57 rfl rfl ?_
    refine fr_getr (a := 2) (pc := 58) dX0_linkExpression_58 rfl pf_0_30 s0_2 rfl rf_2_6 ?_
    refine fr_iload_n (pc := 61) dX0_linkExpression_61 rfl rfl ?_
    refine fr_aload_n (pc := 62) dX0_linkExpression_62 rfl rfl ?_
    refine fr_getr (a := 2) (pc := 63) dX0_linkExpression_63 rfl pf_0_30 s0_2 rfl rf_2_6 ?_
    refine fr_iload_n (pc := 66) dX0_linkExpression_66 rfl rfl ?_
    refine fr_iconst (pc := 67) dX0_linkExpression_67 (by decide) ?_
    refine fr_iadd (z := w32 (l2 + 1)) (pc := 68) dX0_linkExpression_68 rfl ?_
    refine fr_iaload (a := 9) (v := gI M (2 + 7) (w32 (l2 + 1))) (pc := 69) dX0_linkExpression_69 rfl s0_9 hb1 (gI_ne _ _ _ _ (by decide)) ?_
    obtain ⟨hb2, hq⟩ := hq
    refine fr_iastore (a := 9) (pc := 70) dX0_linkExpression_70 rfl s0_9 hb2 nr_9 ?_
    refine fr_aload_n (pc := 71) dX0_linkExpression_71 rfl rfl ?_
    refine fr_getr (a := 2) (pc := 72) dX0_linkExpression_72 rfl pf_0_9 s0_2 rfl rf_2_0 ?_
    refine fr_iload_n (pc := 75) dX0_linkExpression_75 rfl rfl ?_
    refine fr_iaload (a := 3) (v := gI M (2 + 1) l2) (pc := 76) dX0_linkExpression_76 rfl s0_3 hb2 ((gI_ne _ _ _ _ (by decide)).trans (gI_ne _ _ _ _ (by decide))) ?_
    refine fr_bipush (pc := 77) dX0_linkExpression_77 (by decide) ?_
    refine fr_icm_ne (tg := 127) (pc := 79) dX0_linkExpression_79 rfl hq (fun hc3 hq => ?_) (fun hc3 hq => ?_)
    · refine fr_aload_n (pc := 82) dX0_linkExpression_82 rfl rfl ?_
      refine fr_getr (a := 2) (pc := 83) dX0_linkExpression_83 rfl pf_0_27 s0_2 rfl rf_2_5 ?_
      refine fr_iload_n (pc := 86) dX0_linkExpression_86 rfl rfl ?_
      refine fr_aload_n (pc := 87) dX0_linkExpression_87 rfl rfl ?_
      refine fr_getr (a := 2) (pc := 88) dX0_linkExpression_88 rfl pf_0_30 s0_2 rfl rf_2_6 ?_
      refine fr_iload_n (pc := 91) dX0_linkExpression_91 rfl rfl ?_
      refine fr_iconst (pc := 92) dX0_linkExpression_92 (by decide) ?_
      refine fr_iadd (z := w32 (l2 + 1)) (pc := 93) dX0_linkExpression_93 rfl ?_
      refine fr_iaload (a := 9) (v := gI (upI (upI M (2 + 4) (w32 (l2 + 1)) l2) (2 + 7) l2 (gI M (2 + 7) (w32 (l2 + 1)))) (2 + 7) (w32 (l2 + 1))) (pc := 94) dX0_linkExpression_94 rfl s0_9 hb1 rfl ?_
      refine fr_iconst (pc := 95) dX0_linkExpression_95 (by decide) ?_
      refine fr_iadd (z := w32 ((gI (upI (upI M (2 + 4) (w32 (l2 + 1)) l2) (2 + 7) l2 (gI M (2 + 7) (w32 (l2 + 1)))) (2 + 7) (w32 (l2 + 1))) + 1)) (pc := 96) dX0_linkExpression_96 rfl ?_
      refine fr_iastore (a := 8) (pc := 97) dX0_linkExpression_97 rfl s0_8 hb2 nr_8 ?_
      refine fr_aload_n (pc := 98) dX0_linkExpression_98 rfl rfl ?_
      refine fr_getr (a := 2) (pc := 99) dX0_linkExpression_99 rfl pf_0_21 s0_2 rfl rf_2_3 ?_
      refine fr_aload_n (pc := 102) dX0_linkExpression_102 rfl rfl ?_
      refine fr_getr (a := 2) (pc := 103) dX0_linkExpression_103 rfl pf_0_27 s0_2 rfl rf_2_5 ?_
      refine fr_iload_n (pc := 106) dX0_linkExpression_106 rfl rfl ?_
      refine fr_iaload (a := 8) (v := w32 ((gI (upI (upI M (2 + 4) (w32 (l2 + 1)) l2) (2 + 7) l2 (gI M (2 + 7) (w32 (l2 + 1)))) (2 + 7) (w32 (l2 + 1))) + 1)) (pc := 107) dX0_linkExpression_107 rfl s0_8 hb2 (gI_eq _ _ _ _) ?_
      refine fr_iload_n (pc := 108) dX0_linkExpression_108 rfl rfl ?_
      obtain ⟨hb4, hq⟩ := hq
      refine fr_iastore (a := 6) (pc := 109) dX0_linkExpression_109 rfl s0_6 hb4 nr_6 ?_
      refine fr_aload_n (pc := 110) dX0_linkExpression_110 rfl rfl ?_
      refine fr_getr (a := 2) (pc := 111) dX0_linkExpression_111 rfl pf_0_30 s0_2 rfl rf_2_6 ?_
      refine fr_iload_n (pc := 114) dX0_linkExpression_114 rfl rfl ?_
      refine fr_aload_n (pc := 115) dX0_linkExpression_115 rfl rfl ?_
      refine fr_getr (a := 2) (pc := 116) dX0_linkExpression_116 rfl pf_0_30 s0_2 rfl rf_2_6 ?_
      refine fr_aload_n (pc := 119) dX0_linkExpression_119 rfl rfl ?_
      refine fr_getr (a := 2) (pc := 120) dX0_linkExpression_120 rfl pf_0_27 s0_2 rfl rf_2_5 ?_
      refine fr_iload_n (pc := 123) dX0_linkExpression_123 rfl rfl ?_
      refine fr_iaload (a := 8) (v := w32 ((gI (upI (upI M (2 + 4) (w32 (l2 + 1)) l2) (2 + 7) l2 (gI M (2 + 7) (w32 (l2 + 1)))) (2 + 7) (w32 (l2 + 1))) + 1)) (pc := 124) dX0_linkExpression_124 rfl s0_8 hb2 ((gI_ne _ _ _ _ (by decide)).trans (gI_eq _ _ _ _)) ?_
      refine fr_iaload (a := 9) (v := gI (upI (upI M (2 + 4) (w32 (l2 + 1)) l2) (2 + 7) l2 (gI M (2 + 7) (w32 (l2 + 1)))) (2 + 7) (w32 ((gI (upI (upI M (2 + 4) (w32 (l2 + 1)) l2) (2 + 7) l2 (gI M (2 + 7) (w32 (l2 + 1)))) (2 + 7) (w32 (l2 + 1))) + 1))) (pc := 125) dX0_linkExpression_125 rfl s0_9 hb4 ((gI_ne _ _ _ _ (by decide)).trans (gI_ne _ _ _ _ (by decide))) ?_
      refine fr_iastore (a := 9) (pc := 126) dX0_linkExpression_126 rfl s0_9 hb2 nr_9 ?_
      refine fr_iinc (z := w32 (l2 + (-1))) (ls2 := [(2, 2), (0, l1), (0, w32 (l2 + (-1)))]) (pc := 127) dX0_linkExpression_127 (Nat.le_of_ble_eq_true rfl) rfl rfl rfl ?_
      refine fr_goto (tg := 7) (pc := 130) dX0_linkExpression_130 rfl ?_
      exact hq sc d hd
    · refine fr_iinc (z := w32 (l2 + (-1))) (ls2 := [(2, 2), (0, l1), (0, w32 (l2 + (-1)))]) (pc := 127) dX0_linkExpression_127 (Nat.le_of_ble_eq_true rfl) rfl rfl rfl ?_
      refine fr_goto (tg := 7) (pc := 130) dX0_linkExpression_130 rfl ?_
      exact hq sc d hd
  · refine fr_aload_n (pc := 48) dX0_linkExpression_48 rfl rfl ?_
    refine fr_getr (a := 36) (pc := 49) dX0_linkExpression_49 rfl pf_0_21 s0_36 rfl rf_36_3 ?_
    refine fr_iload_n (pc := 52) dX0_linkExpression_52 rfl rfl ?_
    refine fr_iconst (pc := 53) dX0_linkExpression_53 (by decide) ?_
    refine fr_iadd (z := w32 (l2 + 1)) (pc := 54) dX0_linkExpression_54 rfl ?_
    refine fr_iload_n (pc := 55) dX0_linkExpression_55 rfl rfl ?_
    obtain ⟨hb1, hq⟩ := hq
    refine fr_iastore (a := 40) (pc := 56) dX0_linkExpression_56 rfl s0_40 hb1 nr_40 ?_
    refine fr_aload_n (pc := 57) dX0_linkExpression_57 rfl rfl ?_
    refine fr_getr (a := 36) (pc := 58) dX0_linkExpression_58 rfl pf_0_30 s0_36 rfl rf_36_6 ?_
    refine fr_iload_n (pc := 61) dX0_linkExpression_61 rfl rfl ?_
    refine fr_aload_n (pc := 62) dX0_linkExpression_62 rfl rfl ?_
    refine fr_getr (a := 36) (pc := 63) dX0_linkExpression_63 rfl pf_0_30 s0_36 rfl rf_36_6 ?_
    refine fr_iload_n (pc := 66) dX0_linkExpression_66 rfl rfl ?_
    refine fr_iconst (pc := 67) dX0_linkExpression_67 (by decide) ?_
    refine fr_iadd (z := w32 (l2 + 1)) (pc := 68) dX0_linkExpression_68 rfl ?_
    refine fr_iaload (a := 43) (v := gI M (36 + 7) (w32 (l2 + 1))) (pc := 69) dX0_linkExpression_69 rfl s0_43 hb1 (gI_ne _ _ _ _ (by decide)) ?_
    obtain ⟨hb2, hq⟩ := hq
    refine fr_iastore (a := 43) (pc := 70) dX0_linkExpression_70 rfl s0_43 hb2 nr_43 ?_
    refine fr_aload_n (pc := 71) dX0_linkExpression_71 rfl rfl ?_
    refine fr_getr (a := 36) (pc := 72) dX0_linkExpression_72 rfl pf_0_9 s0_36 rfl rf_36_0 ?_
    refine fr_iload_n (pc := 75) dX0_linkExpression_75 rfl rfl ?_
    refine fr_iaload (a := 37) (v := gI M (36 + 1) l2) (pc := 76) dX0_linkExpression_76 rfl s0_37 hb2 ((gI_ne _ _ _ _ (by decide)).trans (gI_ne _ _ _ _ (by decide))) ?_
    refine fr_bipush (pc := 77) dX0_linkExpression_77 (by decide) ?_
    refine fr_icm_ne (tg := 127) (pc := 79) dX0_linkExpression_79 rfl hq (fun hc3 hq => ?_) (fun hc3 hq => ?_)
    · refine fr_aload_n (pc := 82) dX0_linkExpression_82 rfl rfl ?_
      refine fr_getr (a := 36) (pc := 83) dX0_linkExpression_83 rfl pf_0_27 s0_36 rfl rf_36_5 ?_
      refine fr_iload_n (pc := 86) dX0_linkExpression_86 rfl rfl ?_
      refine fr_aload_n (pc := 87) dX0_linkExpression_87 rfl rfl ?_
      refine fr_getr (a := 36) (pc := 88) dX0_linkExpression_88 rfl pf_0_30 s0_36 rfl rf_36_6 ?_
      refine fr_iload_n (pc := 91) dX0_linkExpression_91 rfl rfl ?_
      refine fr_iconst (pc := 92) dX0_linkExpression_92 (by decide) ?_
      refine fr_iadd (z := w32 (l2 + 1)) (pc := 93) dX0_linkExpression_93 rfl ?_
      refine fr_iaload (a := 43) (v := gI (upI (upI M (36 + 4) (w32 (l2 + 1)) l2) (36 + 7) l2 (gI M (36 + 7) (w32 (l2 + 1)))) (36 + 7) (w32 (l2 + 1))) (pc := 94) dX0_linkExpression_94 rfl s0_43 hb1 rfl ?_
      refine fr_iconst (pc := 95) dX0_linkExpression_95 (by decide) ?_
      refine fr_iadd (z := w32 ((gI (upI (upI M (36 + 4) (w32 (l2 + 1)) l2) (36 + 7) l2 (gI M (36 + 7) (w32 (l2 + 1)))) (36 + 7) (w32 (l2 + 1))) + 1)) (pc := 96) dX0_linkExpression_96 rfl ?_
      refine fr_iastore (a := 42) (pc := 97) dX0_linkExpression_97 rfl s0_42 hb2 nr_42 ?_
      refine fr_aload_n (pc := 98) dX0_linkExpression_98 rfl rfl ?_
      refine fr_getr (a := 36) (pc := 99) dX0_linkExpression_99 rfl pf_0_21 s0_36 rfl rf_36_3 ?_
      refine fr_aload_n (pc := 102) dX0_linkExpression_102 rfl rfl ?_
      refine fr_getr (a := 36) (pc := 103) dX0_linkExpression_103 rfl pf_0_27 s0_36 rfl rf_36_5 ?_
      refine fr_iload_n (pc := 106) dX0_linkExpression_106 rfl rfl ?_
      refine fr_iaload (a := 42) (v := w32 ((gI (upI (upI M (36 + 4) (w32 (l2 + 1)) l2) (36 + 7) l2 (gI M (36 + 7) (w32 (l2 + 1)))) (36 + 7) (w32 (l2 + 1))) + 1)) (pc := 107) dX0_linkExpression_107 rfl s0_42 hb2 (gI_eq _ _ _ _) ?_
      refine fr_iload_n (pc := 108) dX0_linkExpression_108 rfl rfl ?_
      obtain ⟨hb4, hq⟩ := hq
      refine fr_iastore (a := 40) (pc := 109) dX0_linkExpression_109 rfl s0_40 hb4 nr_40 ?_
      refine fr_aload_n (pc := 110) dX0_linkExpression_110 rfl rfl ?_
      refine fr_getr (a := 36) (pc := 111) dX0_linkExpression_111 rfl pf_0_30 s0_36 rfl rf_36_6 ?_
      refine fr_iload_n (pc := 114) dX0_linkExpression_114 rfl rfl ?_
      refine fr_aload_n (pc := 115) dX0_linkExpression_115 rfl rfl ?_
      refine fr_getr (a := 36) (pc := 116) dX0_linkExpression_116 rfl pf_0_30 s0_36 rfl rf_36_6 ?_
      refine fr_aload_n (pc := 119) dX0_linkExpression_119 rfl rfl ?_
      refine fr_getr (a := 36) (pc := 120) dX0_linkExpression_120 rfl pf_0_27 s0_36 rfl rf_36_5 ?_
      refine fr_iload_n (pc := 123) dX0_linkExpression_123 rfl rfl ?_
      refine fr_iaload (a := 42) (v := w32 ((gI (upI (upI M (36 + 4) (w32 (l2 + 1)) l2) (36 + 7) l2 (gI M (36 + 7) (w32 (l2 + 1)))) (36 + 7) (w32 (l2 + 1))) + 1)) (pc := 124) dX0_linkExpression_124 rfl s0_42 hb2 ((gI_ne _ _ _ _ (by decide)).trans (gI_eq _ _ _ _)) ?_
      refine fr_iaload (a := 43) (v := gI (upI (upI M (36 + 4) (w32 (l2 + 1)) l2) (36 + 7) l2 (gI M (36 + 7) (w32 (l2 + 1)))) (36 + 7) (w32 ((gI (upI (upI M (36 + 4) (w32 (l2 + 1)) l2) (36 + 7) l2 (gI M (36 + 7) (w32 (l2 + 1)))) (36 + 7) (w32 (l2 + 1))) + 1))) (pc := 125) dX0_linkExpression_125 rfl s0_43 hb4 ((gI_ne _ _ _ _ (by decide)).trans (gI_ne _ _ _ _ (by decide))) ?_
      refine fr_iastore (a := 43) (pc := 126) dX0_linkExpression_126 rfl s0_43 hb2 nr_43 ?_
      refine fr_iinc (z := w32 (l2 + (-1))) (ls2 := [(2, 36), (0, l1), (0, w32 (l2 + (-1)))]) (pc := 127) dX0_linkExpression_127 (Nat.le_of_ble_eq_true rfl) rfl rfl rfl ?_
      refine fr_goto (tg := 7) (pc := 130) dX0_linkExpression_130 rfl ?_
      exact hq sc d hd
    · refine fr_iinc (z := w32 (l2 + (-1))) (ls2 := [(2, 36), (0, l1), (0, w32 (l2 + (-1)))]) (pc := 127) dX0_linkExpression_127 (Nat.le_of_ble_eq_true rfl) rfl rfl rfl ?_
      refine fr_goto (tg := 7) (pc := 130) dX0_linkExpression_130 rfl ?_
      exact hq sc d hd

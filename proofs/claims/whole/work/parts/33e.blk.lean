-- needs 30 31 32
theorem k1_allShownPass_r {M : pm_M} {K : Int → pm_M → Prop} (hq : (if gI M 73 13 < 0 then k1_allShownPass_28 (gI M 73 13) 0 M K else (if gI M 73 13 < gI M 18 1 then ((0 ≤ gI M 73 13 ∧ gI M 73 13 < 16) ∧ (if gI M (20 + (gI M 73 13).toNat) 4 = 1 then k1_allShownPass_28 (gI M 73 13) 0 M K else k1_passes (gI M 73 13) M (fun r6 M5 => (if r6 = 0 then K 0 M5 else k1_allShownPass_28 (gI M 73 13) 0 M5 K)))) else k1_allShownPass_28 (gI M 73 13) 0 M K))) : k1_allShownPass M K := by
  intro sc d hd
  refine fr_aload_n (pc := 0) dX1_allShownPass_0 rfl rfl ?_
  refine fr_getf (a := 73) (i := 13) (v := gI M 73 13) (t := 0) (pc := 1) dX1_allShownPass_1 rfl pf_1_36 rfl s0_73 rfl rfl ?_
  refine fr_istore_n (ls2 := [(2, 73), (0, gI M 73 13), (9, 0)]) (pc := 4) dX1_allShownPass_4 rfl (Nat.le_of_ble_eq_true rfl) rfl ?_
  refine fr_aload_n (pc := 5) dX1_allShownPass_5 rfl rfl ?_
  refine fr_getr (a := 73) (pc := 6) dX1_allShownPass_6 rfl pf_1_32 s0_73 rfl rf_73_1 ?_
  refine fr_iload_n (pc := 9) dX1_allShownPass_9 rfl rfl ?_
  refine fr_inVI (a := 18) (as := [(0, gI M 73 13)]) (rest := []) (ls' := [(2, 18), (0, gI M 73 13)]) (c1 := 0) (c2 := 0) (pc := 10) dX1_allShownPass_10 pl_1_39 rfl ⟨Nat.le_of_ble_eq_true rfl, Nat.le_of_ble_eq_true rfl⟩ rfl rfl rfl s0_18 (Nat.le_of_ble_eq_true rfl) (by omega) rfl rfl (pm_zc _) ?_ (fun y M' h => h)
  refine fr_aload_n (pc := 0) dX8_isShown_0 rfl rfl ?_
  refine fr_iload_n (pc := 1) dX8_isShown_1 rfl rfl ?_
  refine fr_inVI (a := 18) (as := [(0, gI M 73 13)]) (rest := []) (ls' := [(2, 18), (0, gI M 73 13)]) (c1 := 0) (c2 := 0) (pc := 2) dX8_isShown_2 pl_8_23 rfl ⟨Nat.le_of_ble_eq_true rfl, Nat.le_of_ble_eq_true rfl⟩ rfl rfl rfl s0_18 (Nat.le_of_ble_eq_true rfl) (by omega) rfl rfl (pm_zc _) ?_ (fun y M' h => h)
  refine fr_iload_n (pc := 0) dX8_hasTest_0 rfl rfl ?_
  refine fr_ifc_lt (tg := 16) (pc := 1) dX8_hasTest_1 rfl hq (fun hc1 hq => ?_) (fun hc1 hq => ?_)
  · refine fr_iconst (pc := 16) dX8_hasTest_16 (by decide) ?_
    refine fr_iret (pc := 17) dX8_hasTest_17 (Or.inr (Or.inl ⟨rfl, Or.inl rfl⟩)) ?_
    refine fr_ifcT (tg := 20) (pc := 5) dX8_isShown_5 rfl rfl ?_
    refine fr_iconst (pc := 20) dX8_isShown_20 (by decide) ?_
    refine fr_iret (pc := 21) dX8_isShown_21 (Or.inr (Or.inl ⟨rfl, Or.inl rfl⟩)) ?_
    refine fr_ifcT (tg := 26) (pc := 13) dX1_allShownPass_13 rfl rfl ?_
    refine fr_iconst (pc := 26) dX1_allShownPass_26 (by decide) ?_
    refine fr_istore_n (ls2 := [(2, 73), (0, gI M 73 13), (0, 0)]) (pc := 27) dX1_allShownPass_27 rfl (Nat.le_of_ble_eq_true rfl) rfl ?_
    exact hq sc d hd
  · refine fr_iload_n (pc := 4) dX8_hasTest_4 rfl rfl ?_
    refine fr_aload_n (pc := 5) dX8_hasTest_5 rfl rfl ?_
    refine fr_getf (a := 18) (i := 1) (v := gI M 18 1) (t := 0) (pc := 6) dX8_hasTest_6 rfl pf_8_16 rfl s0_18 rfl rfl ?_
    refine fr_icm_ge (tg := 16) (pc := 9) dX8_hasTest_9 rfl hq (fun hc2 hq => ?_) (fun hc2 hq => ?_)
    · refine fr_iconst (pc := 12) dX8_hasTest_12 (by decide) ?_
      refine fr_goto (tg := 17) (pc := 13) dX8_hasTest_13 rfl ?_
      refine fr_iret (pc := 17) dX8_hasTest_17 (Or.inr (Or.inl ⟨rfl, Or.inr rfl⟩)) ?_
      refine fr_ifcF (tg := 20) (pc := 5) dX8_isShown_5 rfl rfl ?_
      refine fr_aload_n (pc := 8) dX8_isShown_8 rfl rfl ?_
      refine fr_iload_n (pc := 9) dX8_isShown_9 rfl rfl ?_
      refine fr_inVI (a := 18) (as := [(0, gI M 73 13)]) (rest := []) (ls' := [(2, 18), (0, gI M 73 13)]) (c1 := 0) (c2 := 0) (pc := 10) dX8_isShown_10 pl_8_27 rfl ⟨Nat.le_of_ble_eq_true rfl, Nat.le_of_ble_eq_true rfl⟩ rfl rfl rfl s0_18 (Nat.le_of_ble_eq_true rfl) (by omega) rfl rfl (pm_zc _) ?_ (fun y M' h => h)
      refine fr_aload_n (pc := 0) dX8_isHeld_0 rfl rfl ?_
      refine fr_getr (a := 18) (pc := 1) dX8_isHeld_1 rfl pf_8_13 s0_18 rfl rf_18_0 ?_
      refine fr_iload_n (pc := 4) dX8_isHeld_4 rfl rfl ?_
      obtain ⟨hb3, hq⟩ := hq
      refine fr_aaload (a := 19) (pc := 5) dX8_isHeld_5 rfl s0_19 hb3 rws_19 ?_
      refine fr_iconst (pc := 6) dX8_isHeld_6 (by decide) ?_
      refine fr_iaload (a := (19 + 1 + (gI M 73 13).toNat)) (v := gI M (20 + (gI M 73 13).toNat) 4) (pc := 7) dX8_isHeld_7 rfl (pm_rowS rwS_19 hb3) (by decide) rfl ?_
      refine fr_iconst (pc := 8) dX8_isHeld_8 (by decide) ?_
      refine fr_icm_ne (tg := 16) (pc := 9) dX8_isHeld_9 rfl hq (fun hc4 hq => ?_) (fun hc4 hq => ?_)
      · refine fr_iconst (pc := 12) dX8_isHeld_12 (by decide) ?_
        refine fr_goto (tg := 17) (pc := 13) dX8_isHeld_13 rfl ?_
        refine fr_iret (pc := 17) dX8_isHeld_17 (Or.inr (Or.inl ⟨rfl, Or.inr rfl⟩)) ?_
        refine fr_ifcT (tg := 20) (pc := 13) dX8_isShown_13 rfl rfl ?_
        refine fr_iconst (pc := 20) dX8_isShown_20 (by decide) ?_
        refine fr_iret (pc := 21) dX8_isShown_21 (Or.inr (Or.inl ⟨rfl, Or.inl rfl⟩)) ?_
        refine fr_ifcT (tg := 26) (pc := 13) dX1_allShownPass_13 rfl rfl ?_
        refine fr_iconst (pc := 26) dX1_allShownPass_26 (by decide) ?_
        refine fr_istore_n (ls2 := [(2, 73), (0, gI M 73 13), (0, 0)]) (pc := 27) dX1_allShownPass_27 rfl (Nat.le_of_ble_eq_true rfl) rfl ?_
        exact hq sc d hd
      · refine fr_iconst (pc := 16) dX8_isHeld_16 (by decide) ?_
        refine fr_iret (pc := 17) dX8_isHeld_17 (Or.inr (Or.inl ⟨rfl, Or.inl rfl⟩)) ?_
        refine fr_ifcF (tg := 20) (pc := 13) dX8_isShown_13 rfl rfl ?_
        refine fr_iconst (pc := 16) dX8_isShown_16 (by decide) ?_
        refine fr_goto (tg := 21) (pc := 17) dX8_isShown_17 rfl ?_
        refine fr_iret (pc := 21) dX8_isShown_21 (Or.inr (Or.inl ⟨rfl, Or.inr rfl⟩)) ?_
        refine fr_ifcF (tg := 26) (pc := 13) dX1_allShownPass_13 rfl rfl ?_
        refine fr_aload_n (pc := 16) dX1_allShownPass_16 rfl rfl ?_
        refine fr_iload_n (pc := 17) dX1_allShownPass_17 rfl rfl ?_
        refine fr_inVI (a := 73) (as := [(0, gI M 73 13)]) (rest := []) (ls' := [(2, 73), (0, gI M 73 13), (9, 0), (9, 0)]) (c1 := 0) (c2 := 0) (pc := 18) dX1_allShownPass_18 pl_1_45 rfl ⟨Nat.le_of_ble_eq_true rfl, Nat.le_of_ble_eq_true rfl⟩ rfl rfl rfl s0_73 (Nat.le_of_ble_eq_true rfl) (by omega) rfl rfl (pm_zc _) (hq sc _ (by omega)) (fun r6 M5 hq => ?_)
        refine fr_ifc_ne (tg := 26) (pc := 21) dX1_allShownPass_21 rfl hq (fun hc7 hq => ?_) (fun hc7 hq => ?_)
        · refine fr_iconst (pc := 24) dX1_allShownPass_24 (by decide) ?_
          exact fr_iret (pc := 25) dX1_allShownPass_25 (Or.inr (Or.inl ⟨rfl, Or.inl rfl⟩)) hq
        · refine fr_iconst (pc := 26) dX1_allShownPass_26 (by decide) ?_
          refine fr_istore_n (ls2 := [(2, 73), (0, gI M 73 13), (0, 0)]) (pc := 27) dX1_allShownPass_27 rfl (Nat.le_of_ble_eq_true rfl) rfl ?_
          exact hq sc d hd
    · refine fr_iconst (pc := 16) dX8_hasTest_16 (by decide) ?_
      refine fr_iret (pc := 17) dX8_hasTest_17 (Or.inr (Or.inl ⟨rfl, Or.inl rfl⟩)) ?_
      refine fr_ifcT (tg := 20) (pc := 5) dX8_isShown_5 rfl rfl ?_
      refine fr_iconst (pc := 20) dX8_isShown_20 (by decide) ?_
      refine fr_iret (pc := 21) dX8_isShown_21 (Or.inr (Or.inl ⟨rfl, Or.inl rfl⟩)) ?_
      refine fr_ifcT (tg := 26) (pc := 13) dX1_allShownPass_13 rfl rfl ?_
      refine fr_iconst (pc := 26) dX1_allShownPass_26 (by decide) ?_
      refine fr_istore_n (ls2 := [(2, 73), (0, gI M 73 13), (0, 0)]) (pc := 27) dX1_allShownPass_27 rfl (Nat.le_of_ble_eq_true rfl) rfl ?_
      exact hq sc d hd
theorem k1_allShownPass_28_r {l1 l2 : Int} {M : pm_M} {K : Int → pm_M → Prop} (hq : (if l2 < gI M 18 1 then (if l2 = l1 then k1_allShownPass_28 l1 (w32 (l2 + 1)) M K else (if l2 < 0 then k1_allShownPass_28 l1 (w32 (l2 + 1)) M K else ((0 ≤ l2 ∧ l2 < 16) ∧ (if gI M (20 + l2.toNat) 4 = 1 then k1_allShownPass_28 l1 (w32 (l2 + 1)) M K else k1_passes l2 M (fun r7 M6 => (if r7 = 0 then K 0 (upI M6 73 13 l2) else k1_allShownPass_28 l1 (w32 (l2 + 1)) M6 K)))))) else K 1 M)) : k1_allShownPass_28 l1 l2 M K := by
  intro sc d hd
  refine fr_iload_n (pc := 28) dX1_allShownPass_28 rfl rfl ?_
  refine fr_aload_n (pc := 29) dX1_allShownPass_29 rfl rfl ?_
  refine fr_getr (a := 73) (pc := 30) dX1_allShownPass_30 rfl pf_1_32 s0_73 rfl rf_73_1 ?_
  refine fr_getf (a := 18) (i := 1) (v := gI M 18 1) (t := 0) (pc := 33) dX1_allShownPass_33 rfl pf_1_48 rfl s0_18 rfl rfl ?_
  refine fr_icm_ge (tg := 76) (pc := 36) dX1_allShownPass_36 rfl hq (fun hc1 hq => ?_) (fun hc1 hq => ?_)
  · refine fr_iload_n (pc := 39) dX1_allShownPass_39 rfl rfl ?_
    refine fr_iload_n (pc := 40) dX1_allShownPass_40 rfl rfl ?_
    refine fr_icm_eq (tg := 70) (pc := 41) dX1_allShownPass_41 rfl hq (fun hc2 hq => ?_) (fun hc2 hq => ?_)
    · refine fr_iinc (z := w32 (l2 + 1)) (ls2 := [(2, 73), (0, l1), (0, w32 (l2 + 1))]) (pc := 70) dX1_allShownPass_70 (Nat.le_of_ble_eq_true rfl) rfl rfl rfl ?_
      refine fr_goto (tg := 28) (pc := 73) dX1_allShownPass_73 rfl ?_
      exact hq sc d hd
    · refine fr_aload_n (pc := 44) dX1_allShownPass_44 rfl rfl ?_
      refine fr_getr (a := 73) (pc := 45) dX1_allShownPass_45 rfl pf_1_32 s0_73 rfl rf_73_1 ?_
      refine fr_iload_n (pc := 48) dX1_allShownPass_48 rfl rfl ?_
      refine fr_inVI (a := 18) (as := [(0, l2)]) (rest := []) (ls' := [(2, 18), (0, l2)]) (c1 := 0) (c2 := 0) (pc := 49) dX1_allShownPass_49 pl_1_39 rfl ⟨Nat.le_of_ble_eq_true rfl, Nat.le_of_ble_eq_true rfl⟩ rfl rfl rfl s0_18 (Nat.le_of_ble_eq_true rfl) (by omega) rfl rfl (pm_zc _) ?_ (fun y M' h => h)
      refine fr_aload_n (pc := 0) dX8_isShown_0 rfl rfl ?_
      refine fr_iload_n (pc := 1) dX8_isShown_1 rfl rfl ?_
      refine fr_inVI (a := 18) (as := [(0, l2)]) (rest := []) (ls' := [(2, 18), (0, l2)]) (c1 := 0) (c2 := 0) (pc := 2) dX8_isShown_2 pl_8_23 rfl ⟨Nat.le_of_ble_eq_true rfl, Nat.le_of_ble_eq_true rfl⟩ rfl rfl rfl s0_18 (Nat.le_of_ble_eq_true rfl) (by omega) rfl rfl (pm_zc _) ?_ (fun y M' h => h)
      refine fr_iload_n (pc := 0) dX8_hasTest_0 rfl rfl ?_
      refine fr_ifc_lt (tg := 16) (pc := 1) dX8_hasTest_1 rfl hq (fun hc3 hq => ?_) (fun hc3 hq => ?_)
      · refine fr_iconst (pc := 16) dX8_hasTest_16 (by decide) ?_
        refine fr_iret (pc := 17) dX8_hasTest_17 (Or.inr (Or.inl ⟨rfl, Or.inl rfl⟩)) ?_
        refine fr_ifcT (tg := 20) (pc := 5) dX8_isShown_5 rfl rfl ?_
        refine fr_iconst (pc := 20) dX8_isShown_20 (by decide) ?_
        refine fr_iret (pc := 21) dX8_isShown_21 (Or.inr (Or.inl ⟨rfl, Or.inl rfl⟩)) ?_
        refine fr_ifcT (tg := 70) (pc := 52) dX1_allShownPass_52 rfl rfl ?_
        refine fr_iinc (z := w32 (l2 + 1)) (ls2 := [(2, 73), (0, l1), (0, w32 (l2 + 1))]) (pc := 70) dX1_allShownPass_70 (Nat.le_of_ble_eq_true rfl) rfl rfl rfl ?_
        refine fr_goto (tg := 28) (pc := 73) dX1_allShownPass_73 rfl ?_
        exact hq sc d hd
      · refine fr_iload_n (pc := 4) dX8_hasTest_4 rfl rfl ?_
        refine fr_aload_n (pc := 5) dX8_hasTest_5 rfl rfl ?_
        refine fr_getf (a := 18) (i := 1) (v := gI M 18 1) (t := 0) (pc := 6) dX8_hasTest_6 rfl pf_8_16 rfl s0_18 rfl rfl ?_
        refine fr_icmF (tg := 16) (pc := 9) dX8_hasTest_9 (decide_eq_false (by omega)) rfl ?_
        refine fr_iconst (pc := 12) dX8_hasTest_12 (by decide) ?_
        refine fr_goto (tg := 17) (pc := 13) dX8_hasTest_13 rfl ?_
        refine fr_iret (pc := 17) dX8_hasTest_17 (Or.inr (Or.inl ⟨rfl, Or.inr rfl⟩)) ?_
        refine fr_ifcF (tg := 20) (pc := 5) dX8_isShown_5 rfl rfl ?_
        refine fr_aload_n (pc := 8) dX8_isShown_8 rfl rfl ?_
        refine fr_iload_n (pc := 9) dX8_isShown_9 rfl rfl ?_
        refine fr_inVI (a := 18) (as := [(0, l2)]) (rest := []) (ls' := [(2, 18), (0, l2)]) (c1 := 0) (c2 := 0) (pc := 10) dX8_isShown_10 pl_8_27 rfl ⟨Nat.le_of_ble_eq_true rfl, Nat.le_of_ble_eq_true rfl⟩ rfl rfl rfl s0_18 (Nat.le_of_ble_eq_true rfl) (by omega) rfl rfl (pm_zc _) ?_ (fun y M' h => h)
        refine fr_aload_n (pc := 0) dX8_isHeld_0 rfl rfl ?_
        refine fr_getr (a := 18) (pc := 1) dX8_isHeld_1 rfl pf_8_13 s0_18 rfl rf_18_0 ?_
        refine fr_iload_n (pc := 4) dX8_isHeld_4 rfl rfl ?_
        obtain ⟨hb4, hq⟩ := hq
        refine fr_aaload (a := 19) (pc := 5) dX8_isHeld_5 rfl s0_19 hb4 rws_19 ?_
        refine fr_iconst (pc := 6) dX8_isHeld_6 (by decide) ?_
        refine fr_iaload (a := (19 + 1 + l2.toNat)) (v := gI M (20 + l2.toNat) 4) (pc := 7) dX8_isHeld_7 rfl (pm_rowS rwS_19 hb4) (by decide) rfl ?_
        refine fr_iconst (pc := 8) dX8_isHeld_8 (by decide) ?_
        refine fr_icm_ne (tg := 16) (pc := 9) dX8_isHeld_9 rfl hq (fun hc5 hq => ?_) (fun hc5 hq => ?_)
        · refine fr_iconst (pc := 12) dX8_isHeld_12 (by decide) ?_
          refine fr_goto (tg := 17) (pc := 13) dX8_isHeld_13 rfl ?_
          refine fr_iret (pc := 17) dX8_isHeld_17 (Or.inr (Or.inl ⟨rfl, Or.inr rfl⟩)) ?_
          refine fr_ifcT (tg := 20) (pc := 13) dX8_isShown_13 rfl rfl ?_
          refine fr_iconst (pc := 20) dX8_isShown_20 (by decide) ?_
          refine fr_iret (pc := 21) dX8_isShown_21 (Or.inr (Or.inl ⟨rfl, Or.inl rfl⟩)) ?_
          refine fr_ifcT (tg := 70) (pc := 52) dX1_allShownPass_52 rfl rfl ?_
          refine fr_iinc (z := w32 (l2 + 1)) (ls2 := [(2, 73), (0, l1), (0, w32 (l2 + 1))]) (pc := 70) dX1_allShownPass_70 (Nat.le_of_ble_eq_true rfl) rfl rfl rfl ?_
          refine fr_goto (tg := 28) (pc := 73) dX1_allShownPass_73 rfl ?_
          exact hq sc d hd
        · refine fr_iconst (pc := 16) dX8_isHeld_16 (by decide) ?_
          refine fr_iret (pc := 17) dX8_isHeld_17 (Or.inr (Or.inl ⟨rfl, Or.inl rfl⟩)) ?_
          refine fr_ifcF (tg := 20) (pc := 13) dX8_isShown_13 rfl rfl ?_
          refine fr_iconst (pc := 16) dX8_isShown_16 (by decide) ?_
          refine fr_goto (tg := 21) (pc := 17) dX8_isShown_17 rfl ?_
          refine fr_iret (pc := 21) dX8_isShown_21 (Or.inr (Or.inl ⟨rfl, Or.inr rfl⟩)) ?_
          refine fr_ifcF (tg := 70) (pc := 52) dX1_allShownPass_52 rfl rfl ?_
          refine fr_aload_n (pc := 55) dX1_allShownPass_55 rfl rfl ?_
          refine fr_iload_n (pc := 56) dX1_allShownPass_56 rfl rfl ?_
          refine fr_inVI (a := 73) (as := [(0, l2)]) (rest := []) (ls' := [(2, 73), (0, l2), (9, 0), (9, 0)]) (c1 := 0) (c2 := 0) (pc := 57) dX1_allShownPass_57 pl_1_45 rfl ⟨Nat.le_of_ble_eq_true rfl, Nat.le_of_ble_eq_true rfl⟩ rfl rfl rfl s0_73 (Nat.le_of_ble_eq_true rfl) (by omega) rfl rfl (pm_zc _) (hq sc _ (by omega)) (fun r7 M6 hq => ?_)
          refine fr_ifc_ne (tg := 70) (pc := 60) dX1_allShownPass_60 rfl hq (fun hc8 hq => ?_) (fun hc8 hq => ?_)
          · refine fr_aload_n (pc := 63) dX1_allShownPass_63 rfl rfl ?_
            refine fr_iload_n (pc := 64) dX1_allShownPass_64 rfl rfl ?_
            refine fr_put (a := 73) (i := 13) (pc := 65) dX1_allShownPass_65 rfl pf_1_36 rfl s0_73 rfl rfl nf_73_13 rfl ?_
            refine fr_iconst (pc := 68) dX1_allShownPass_68 (by decide) ?_
            exact fr_iret (pc := 69) dX1_allShownPass_69 (Or.inr (Or.inl ⟨rfl, Or.inl rfl⟩)) hq
          · refine fr_iinc (z := w32 (l2 + 1)) (ls2 := [(2, 73), (0, l1), (0, w32 (l2 + 1))]) (pc := 70) dX1_allShownPass_70 (Nat.le_of_ble_eq_true rfl) rfl rfl rfl ?_
            refine fr_goto (tg := 28) (pc := 73) dX1_allShownPass_73 rfl ?_
            exact hq sc d hd
  · refine fr_iconst (pc := 76) dX1_allShownPass_76 (by decide) ?_
    exact fr_iret (pc := 77) dX1_allShownPass_77 (Or.inr (Or.inl ⟨rfl, Or.inr rfl⟩)) hq
theorem k2_keep_r {a1 a2 : Int} {M : pm_M} {K : pm_M → Prop} (hq : (if gI M 132 10 < 480 then ((0 ≤ gI M 132 10 ∧ gI M 132 10 < 480) ∧ k2_keep_43 0 (upI (upI (upI M 133 (gI M 132 10) a1) 134 (gI M 132 10) a2) 135 (gI M 132 10) 0) K) else K M)) : k2_keep a1 a2 M K := by
  intro sc d hd
  refine fr_aload_n (pc := 0) dX2_keep_0 rfl rfl ?_
  refine fr_getf (a := 132) (i := 10) (v := gI M 132 10) (t := 0) (pc := 1) dX2_keep_1 rfl pf_2_52 rfl s0_132 rfl rfl ?_
  refine fr_sipush (pc := 4) dX2_keep_4 (by decide) ?_
  refine fr_icm_lt (tg := 11) (pc := 7) dX2_keep_7 rfl hq (fun hc1 hq => ?_) (fun hc1 hq => ?_)
  · refine fr_aload_n (pc := 11) dX2_keep_11 rfl rfl ?_
    refine fr_getr (a := 132) (pc := 12) dX2_keep_12 rfl pf_2_9 s0_132 rfl rf_132_5 ?_
    refine fr_aload_n (pc := 15) dX2_keep_15 rfl rfl ?_
    refine fr_getf (a := 132) (i := 10) (v := gI M 132 10) (t := 0) (pc := 16) dX2_keep_16 rfl pf_2_52 rfl s0_132 rfl rfl ?_
    refine fr_iload_n (pc := 19) dX2_keep_19 rfl rfl ?_
    obtain ⟨hb2, hq⟩ := hq
    refine fr_iastore (a := 133) (pc := 20) dX2_keep_20 rfl s0_133 hb2 nr_133 ?_
    refine fr_aload_n (pc := 21) dX2_keep_21 rfl rfl ?_
    refine fr_getr (a := 132) (pc := 22) dX2_keep_22 rfl pf_2_15 s0_132 rfl rf_132_6 ?_
    refine fr_aload_n (pc := 25) dX2_keep_25 rfl rfl ?_
    refine fr_getf (a := 132) (i := 10) (v := gI M 132 10) (t := 0) (pc := 26) dX2_keep_26 rfl pf_2_52 rfl s0_132 rfl (gI_ne _ _ _ _ (by decide)) ?_
    refine fr_iload_n (pc := 29) dX2_keep_29 rfl rfl ?_
    refine fr_iastore (a := 134) (pc := 30) dX2_keep_30 rfl s0_134 hb2 nr_134 ?_
    refine fr_aload_n (pc := 31) dX2_keep_31 rfl rfl ?_
    refine fr_getr (a := 132) (pc := 32) dX2_keep_32 rfl pf_2_18 s0_132 rfl rf_132_7 ?_
    refine fr_aload_n (pc := 35) dX2_keep_35 rfl rfl ?_
    refine fr_getf (a := 132) (i := 10) (v := gI M 132 10) (t := 0) (pc := 36) dX2_keep_36 rfl pf_2_52 rfl s0_132 rfl ((gI_ne _ _ _ _ (by decide)).trans (gI_ne _ _ _ _ (by decide))) ?_
    refine fr_iconst (pc := 39) dX2_keep_39 (by decide) ?_
    refine fr_iastore (a := 135) (pc := 40) dX2_keep_40 rfl s0_135 hb2 nr_135 ?_
    refine fr_iconst (pc := 41) dX2_keep_41 (by decide) ?_
    refine fr_istore_n (ls2 := [(2, 132), (0, a1), (0, a2), (0, 0)]) (pc := 42) dX2_keep_42 rfl (Nat.le_of_ble_eq_true rfl) rfl ?_
    exact hq sc d hd (0, a1) pm_t0 (0, a2) pm_t0
  · exact fr_vret (pc := 10) dX2_keep_10 rfl hq
theorem k2_keep_43_r {l3 : Int} {M : pm_M} {K : pm_M → Prop} (hq : (if l3 < gI M 18 1 then k1_passes l3 M (fun r3 M2 => (if r3 = 0 then ((0 ≤ w32 ((w32 ((gI M2 132 10) * 16)) + l3) ∧ w32 ((w32 ((gI M2 132 10) * 16)) + l3) < 7680) ∧ k2_keep_43 (w32 (l3 + 1)) (upI M2 137 (w32 ((w32 ((gI M2 132 10) * 16)) + l3)) (pm_lor (pm_lshl (gI M2 73 6) 32) (pm_land (gI M2 73 7) 4294967295))) K) else ((0 ≤ l3 ∧ l3 < 16) ∧ (if gI M2 (20 + l3.toNat) 4 = 1 then ((0 ≤ gI M2 132 10 ∧ gI M2 132 10 < 480) ∧ ((0 ≤ w32 ((w32 ((gI M2 132 10) * 16)) + l3) ∧ w32 ((w32 ((gI M2 132 10) * 16)) + l3) < 7680) ∧ k2_keep_43 (w32 (l3 + 1)) (upI (upI M2 135 (gI M2 132 10) (w32 ((gI M2 135 (gI M2 132 10)) + 1))) 137 (w32 ((w32 ((gI M2 132 10) * 16)) + l3)) (pm_lor (pm_lshl (gI M2 73 6) 32) (pm_land (gI M2 73 7) 4294967295))) K)) else ((0 ≤ w32 ((w32 ((gI M2 132 10) * 16)) + l3) ∧ w32 ((w32 ((gI M2 132 10) * 16)) + l3) < 7680) ∧ k2_keep_43 (w32 (l3 + 1)) (upI M2 137 (w32 ((w32 ((gI M2 132 10) * 16)) + l3)) (pm_lor (pm_lshl (gI M2 73 6) 32) (pm_land (gI M2 73 7) 4294967295))) K))))) else k2_firstAlike (gI M 132 10) M (fun r12 M11 => ((0 ≤ gI M 132 10 ∧ gI M 132 10 < 480) ∧ K (upI (upI M11 136 (gI M 132 10) r12) 132 10 (w32 ((gI M11 132 10) + 1))))))) : k2_keep_43 l3 M K := by
  intro sc d hd z1 hz1 z2 hz2
  refine fr_iload_n (pc := 43) dX2_keep_43 rfl rfl ?_
  refine fr_aload_n (pc := 44) dX2_keep_44 rfl rfl ?_
  refine fr_getr (a := 132) (pc := 45) dX2_keep_45 rfl pf_2_32 s0_132 rfl rf_132_1 ?_
  refine fr_getf (a := 18) (i := 1) (v := gI M 18 1) (t := 0) (pc := 48) dX2_keep_48 rfl pf_2_110 rfl s0_18 rfl rfl ?_
  refine fr_icm_ge (tg := 133) (pc := 51) dX2_keep_51 rfl hq (fun hc1 hq => ?_) (fun hc1 hq => ?_)
  · refine fr_aload_n (pc := 54) dX2_keep_54 rfl rfl ?_
    refine fr_getr (a := 132) (pc := 55) dX2_keep_55 rfl pf_2_36 s0_132 rfl rf_132_2 ?_
    refine fr_iload_n (pc := 58) dX2_keep_58 rfl rfl ?_
    refine fr_inVI (a := 73) (as := [(0, l3)]) (rest := []) (ls' := [(2, 73), (0, l3), (9, 0), (9, 0)]) (c1 := 0) (c2 := 0) (pc := 59) dX2_keep_59 pl_2_115 rfl ⟨Nat.le_of_ble_eq_true rfl, Nat.le_of_ble_eq_true rfl⟩ rfl rfl rfl s0_73 (Nat.le_of_ble_eq_true rfl) (by omega) rfl rfl (pm_zc _) (hq sc _ (by omega)) (fun r3 M2 hq => ?_)
    refine fr_ifc_eq (tg := 89) (pc := 62) dX2_keep_62 rfl hq (fun hc4 hq => ?_) (fun hc4 hq => ?_)
    · refine fr_aload_n (pc := 89) dX2_keep_89 rfl rfl ?_
      refine fr_getr (a := 132) (pc := 90) dX2_keep_90 rfl pf_2_24 s0_132 rfl rf_132_9 ?_
      refine fr_aload_n (pc := 93) dX2_keep_93 rfl rfl ?_
      refine fr_getf (a := 132) (i := 10) (v := gI M2 132 10) (t := 0) (pc := 94) dX2_keep_94 rfl pf_2_52 rfl s0_132 rfl rfl ?_
      refine fr_bipush (pc := 97) dX2_keep_97 (by decide) ?_
      refine fr_imul (z := w32 ((gI M2 132 10) * 16)) (pc := 99) dX2_keep_99 rfl ?_
      refine fr_iload_n (pc := 100) dX2_keep_100 rfl rfl ?_
      refine fr_iadd (z := w32 ((w32 ((gI M2 132 10) * 16)) + l3)) (pc := 101) dX2_keep_101 rfl ?_
      refine fr_aload_n (pc := 102) dX2_keep_102 rfl rfl ?_
      refine fr_getr (a := 132) (pc := 103) dX2_keep_103 rfl pf_2_36 s0_132 rfl rf_132_2 ?_
      refine fr_getf (a := 73) (i := 6) (v := gI M2 73 6) (t := 0) (pc := 106) dX2_keep_106 rfl pf_2_121 rfl s0_73 rfl rfl ?_
      refine fr_i2l (pc := 109) dX2_keep_109 ?_
      refine fr_bipush (pc := 110) dX2_keep_110 (by decide) ?_
      refine fr_lshl (pc := 112) dX2_keep_112 ?_
      refine fr_aload_n (pc := 113) dX2_keep_113 rfl rfl ?_
      refine fr_getr (a := 132) (pc := 114) dX2_keep_114 rfl pf_2_36 s0_132 rfl rf_132_2 ?_
      refine fr_getf (a := 73) (i := 7) (v := gI M2 73 7) (t := 0) (pc := 117) dX2_keep_117 rfl pf_2_124 rfl s0_73 rfl rfl ?_
      refine fr_i2l (pc := 120) dX2_keep_120 ?_
      refine fr_ldc2 (pc := 121) dX2_keep_121 rfl ?_
      refine fr_land (pc := 124) dX2_keep_124 ?_
      refine fr_lor (pc := 125) dX2_keep_125 ?_
      obtain ⟨hb5, hq⟩ := hq
      refine fr_lastore (a := 137) (pc := 126) dX2_keep_126 rfl s0_137 hb5 nr_137 ?_
      refine fr_iinc (z := w32 (l3 + 1)) (ls2 := [(2, 132), z1, z2, (0, w32 (l3 + 1))]) (pc := 127) dX2_keep_127 (Nat.le_of_ble_eq_true rfl) rfl rfl (pm_st1z hz2 rfl rfl) ?_
      refine fr_goto (tg := 43) (pc := 130) dX2_keep_130 rfl ?_
      exact hq sc d hd z1 hz1 z2 hz2
    · refine fr_aload_n (pc := 65) dX2_keep_65 rfl rfl ?_
      refine fr_getr (a := 132) (pc := 66) dX2_keep_66 rfl pf_2_32 s0_132 rfl rf_132_1 ?_
      refine fr_iload_n (pc := 69) dX2_keep_69 rfl rfl ?_
      refine fr_inVI (a := 18) (as := [(0, l3)]) (rest := []) (ls' := [(2, 18), (0, l3)]) (c1 := 0) (c2 := 0) (pc := 70) dX2_keep_70 pl_2_118 rfl ⟨Nat.le_of_ble_eq_true rfl, Nat.le_of_ble_eq_true rfl⟩ rfl rfl rfl s0_18 (Nat.le_of_ble_eq_true rfl) (by omega) rfl rfl (pm_zc _) ?_ (fun y M' h => h)
      refine fr_aload_n (pc := 0) dX8_isHeld_0 rfl rfl ?_
      refine fr_getr (a := 18) (pc := 1) dX8_isHeld_1 rfl pf_8_13 s0_18 rfl rf_18_0 ?_
      refine fr_iload_n (pc := 4) dX8_isHeld_4 rfl rfl ?_
      obtain ⟨hb6, hq⟩ := hq
      refine fr_aaload (a := 19) (pc := 5) dX8_isHeld_5 rfl s0_19 hb6 rws_19 ?_
      refine fr_iconst (pc := 6) dX8_isHeld_6 (by decide) ?_
      refine fr_iaload (a := (19 + 1 + l3.toNat)) (v := gI M2 (20 + l3.toNat) 4) (pc := 7) dX8_isHeld_7 rfl (pm_rowS rwS_19 hb6) (by decide) rfl ?_
      refine fr_iconst (pc := 8) dX8_isHeld_8 (by decide) ?_
      refine fr_icm_ne (tg := 16) (pc := 9) dX8_isHeld_9 rfl hq (fun hc7 hq => ?_) (fun hc7 hq => ?_)
      · refine fr_iconst (pc := 12) dX8_isHeld_12 (by decide) ?_
        refine fr_goto (tg := 17) (pc := 13) dX8_isHeld_13 rfl ?_
        refine fr_iret (pc := 17) dX8_isHeld_17 (Or.inr (Or.inl ⟨rfl, Or.inr rfl⟩)) ?_
        refine fr_ifcF (tg := 89) (pc := 73) dX2_keep_73 rfl rfl ?_
        refine fr_aload_n (pc := 76) dX2_keep_76 rfl rfl ?_
        refine fr_getr (a := 132) (pc := 77) dX2_keep_77 rfl pf_2_18 s0_132 rfl rf_132_7 ?_
        refine fr_aload_n (pc := 80) dX2_keep_80 rfl rfl ?_
        refine fr_getf (a := 132) (i := 10) (v := gI M2 132 10) (t := 0) (pc := 81) dX2_keep_81 rfl pf_2_52 rfl s0_132 rfl rfl ?_
        refine fr_dup2 (pc := 84) dX2_keep_84 pm_t0 pm_t2 ?_
        obtain ⟨hb8, hq⟩ := hq
        refine fr_iaload (a := 135) (v := gI M2 135 (gI M2 132 10)) (pc := 85) dX2_keep_85 rfl s0_135 hb8 rfl ?_
        refine fr_iconst (pc := 86) dX2_keep_86 (by decide) ?_
        refine fr_iadd (z := w32 ((gI M2 135 (gI M2 132 10)) + 1)) (pc := 87) dX2_keep_87 rfl ?_
        refine fr_iastore (a := 135) (pc := 88) dX2_keep_88 rfl s0_135 hb8 nr_135 ?_
        refine fr_aload_n (pc := 89) dX2_keep_89 rfl rfl ?_
        refine fr_getr (a := 132) (pc := 90) dX2_keep_90 rfl pf_2_24 s0_132 rfl rf_132_9 ?_
        refine fr_aload_n (pc := 93) dX2_keep_93 rfl rfl ?_
        refine fr_getf (a := 132) (i := 10) (v := gI M2 132 10) (t := 0) (pc := 94) dX2_keep_94 rfl pf_2_52 rfl s0_132 rfl (gI_ne _ _ _ _ (by decide)) ?_
        refine fr_bipush (pc := 97) dX2_keep_97 (by decide) ?_
        refine fr_imul (z := w32 ((gI M2 132 10) * 16)) (pc := 99) dX2_keep_99 rfl ?_
        refine fr_iload_n (pc := 100) dX2_keep_100 rfl rfl ?_
        refine fr_iadd (z := w32 ((w32 ((gI M2 132 10) * 16)) + l3)) (pc := 101) dX2_keep_101 rfl ?_
        refine fr_aload_n (pc := 102) dX2_keep_102 rfl rfl ?_
        refine fr_getr (a := 132) (pc := 103) dX2_keep_103 rfl pf_2_36 s0_132 rfl rf_132_2 ?_
        refine fr_getf (a := 73) (i := 6) (v := gI M2 73 6) (t := 0) (pc := 106) dX2_keep_106 rfl pf_2_121 rfl s0_73 rfl (gI_ne _ _ _ _ (by decide)) ?_
        refine fr_i2l (pc := 109) dX2_keep_109 ?_
        refine fr_bipush (pc := 110) dX2_keep_110 (by decide) ?_
        refine fr_lshl (pc := 112) dX2_keep_112 ?_
        refine fr_aload_n (pc := 113) dX2_keep_113 rfl rfl ?_
        refine fr_getr (a := 132) (pc := 114) dX2_keep_114 rfl pf_2_36 s0_132 rfl rf_132_2 ?_
        refine fr_getf (a := 73) (i := 7) (v := gI M2 73 7) (t := 0) (pc := 117) dX2_keep_117 rfl pf_2_124 rfl s0_73 rfl (gI_ne _ _ _ _ (by decide)) ?_
        refine fr_i2l (pc := 120) dX2_keep_120 ?_
        refine fr_ldc2 (pc := 121) dX2_keep_121 rfl ?_
        refine fr_land (pc := 124) dX2_keep_124 ?_
        refine fr_lor (pc := 125) dX2_keep_125 ?_
        obtain ⟨hb9, hq⟩ := hq
        refine fr_lastore (a := 137) (pc := 126) dX2_keep_126 rfl s0_137 hb9 nr_137 ?_
        refine fr_iinc (z := w32 (l3 + 1)) (ls2 := [(2, 132), z1, z2, (0, w32 (l3 + 1))]) (pc := 127) dX2_keep_127 (Nat.le_of_ble_eq_true rfl) rfl rfl (pm_st1z hz2 rfl rfl) ?_
        refine fr_goto (tg := 43) (pc := 130) dX2_keep_130 rfl ?_
        exact hq sc d hd z1 hz1 z2 hz2
      · refine fr_iconst (pc := 16) dX8_isHeld_16 (by decide) ?_
        refine fr_iret (pc := 17) dX8_isHeld_17 (Or.inr (Or.inl ⟨rfl, Or.inl rfl⟩)) ?_
        refine fr_ifcT (tg := 89) (pc := 73) dX2_keep_73 rfl rfl ?_
        refine fr_aload_n (pc := 89) dX2_keep_89 rfl rfl ?_
        refine fr_getr (a := 132) (pc := 90) dX2_keep_90 rfl pf_2_24 s0_132 rfl rf_132_9 ?_
        refine fr_aload_n (pc := 93) dX2_keep_93 rfl rfl ?_
        refine fr_getf (a := 132) (i := 10) (v := gI M2 132 10) (t := 0) (pc := 94) dX2_keep_94 rfl pf_2_52 rfl s0_132 rfl rfl ?_
        refine fr_bipush (pc := 97) dX2_keep_97 (by decide) ?_
        refine fr_imul (z := w32 ((gI M2 132 10) * 16)) (pc := 99) dX2_keep_99 rfl ?_
        refine fr_iload_n (pc := 100) dX2_keep_100 rfl rfl ?_
        refine fr_iadd (z := w32 ((w32 ((gI M2 132 10) * 16)) + l3)) (pc := 101) dX2_keep_101 rfl ?_
        refine fr_aload_n (pc := 102) dX2_keep_102 rfl rfl ?_
        refine fr_getr (a := 132) (pc := 103) dX2_keep_103 rfl pf_2_36 s0_132 rfl rf_132_2 ?_
        refine fr_getf (a := 73) (i := 6) (v := gI M2 73 6) (t := 0) (pc := 106) dX2_keep_106 rfl pf_2_121 rfl s0_73 rfl rfl ?_
        refine fr_i2l (pc := 109) dX2_keep_109 ?_
        refine fr_bipush (pc := 110) dX2_keep_110 (by decide) ?_
        refine fr_lshl (pc := 112) dX2_keep_112 ?_
        refine fr_aload_n (pc := 113) dX2_keep_113 rfl rfl ?_
        refine fr_getr (a := 132) (pc := 114) dX2_keep_114 rfl pf_2_36 s0_132 rfl rf_132_2 ?_
        refine fr_getf (a := 73) (i := 7) (v := gI M2 73 7) (t := 0) (pc := 117) dX2_keep_117 rfl pf_2_124 rfl s0_73 rfl rfl ?_
        refine fr_i2l (pc := 120) dX2_keep_120 ?_
        refine fr_ldc2 (pc := 121) dX2_keep_121 rfl ?_
        refine fr_land (pc := 124) dX2_keep_124 ?_
        refine fr_lor (pc := 125) dX2_keep_125 ?_
        obtain ⟨hb10, hq⟩ := hq
        refine fr_lastore (a := 137) (pc := 126) dX2_keep_126 rfl s0_137 hb10 nr_137 ?_
        refine fr_iinc (z := w32 (l3 + 1)) (ls2 := [(2, 132), z1, z2, (0, w32 (l3 + 1))]) (pc := 127) dX2_keep_127 (Nat.le_of_ble_eq_true rfl) rfl rfl (pm_st1z hz2 rfl rfl) ?_
        refine fr_goto (tg := 43) (pc := 130) dX2_keep_130 rfl ?_
        exact hq sc d hd z1 hz1 z2 hz2
  · refine fr_aload_n (pc := 133) dX2_keep_133 rfl rfl ?_
    refine fr_getr (a := 132) (pc := 134) dX2_keep_134 rfl pf_2_21 s0_132 rfl rf_132_8 ?_
    refine fr_aload_n (pc := 137) dX2_keep_137 rfl rfl ?_
    refine fr_getf (a := 132) (i := 10) (v := gI M 132 10) (t := 0) (pc := 138) dX2_keep_138 rfl pf_2_52 rfl s0_132 rfl rfl ?_
    refine fr_aload_n (pc := 141) dX2_keep_141 rfl rfl ?_
    refine fr_aload_n (pc := 142) dX2_keep_142 rfl rfl ?_
    refine fr_getf (a := 132) (i := 10) (v := gI M 132 10) (t := 0) (pc := 143) dX2_keep_143 rfl pf_2_52 rfl s0_132 rfl rfl ?_
    refine fr_inVI (a := 132) (as := [(0, gI M 132 10)]) (rest := [(0, gI M 132 10), (2, 136)]) (ls' := [(2, 132), (0, gI M 132 10), (9, 0)]) (c1 := 0) (c2 := 0) (pc := 146) dX2_keep_146 pl_2_129 rfl ⟨Nat.le_of_ble_eq_true rfl, Nat.le_of_ble_eq_true rfl⟩ rfl rfl rfl s0_132 (Nat.le_of_ble_eq_true rfl) (by omega) rfl rfl (pm_zc _) (hq sc _ (by omega)) (fun r12 M11 hq => ?_)
    obtain ⟨hb13, hq⟩ := hq
    refine fr_iastore (a := 136) (pc := 149) dX2_keep_149 rfl s0_136 hb13 nr_136 ?_
    refine fr_aload_n (pc := 150) dX2_keep_150 rfl rfl ?_
    refine fr_dup (pc := 151) dX2_keep_151 pm_t2 ?_
    refine fr_getf (a := 132) (i := 10) (v := gI M11 132 10) (t := 0) (pc := 152) dX2_keep_152 rfl pf_2_52 rfl s0_132 rfl (gI_ne _ _ _ _ (by decide)) ?_
    refine fr_iconst (pc := 155) dX2_keep_155 (by decide) ?_
    refine fr_iadd (z := w32 ((gI M11 132 10) + 1)) (pc := 156) dX2_keep_156 rfl ?_
    refine fr_put (a := 132) (i := 10) (pc := 157) dX2_keep_157 rfl pf_2_52 rfl s0_132 rfl rfl nf_132_10 rfl ?_
    exact fr_vret (pc := 160) dX2_keep_160 rfl hq
theorem k2_firstAlike_r {a1 : Int} {M : pm_M} {K : Int → pm_M → Prop} (hq : k2_firstAlike_2 a1 0 M K) : k2_firstAlike a1 M K := by
  intro sc d hd
  refine fr_iconst (pc := 0) dX2_firstAlike_0 (by decide) ?_
  refine fr_istore_n (ls2 := [(2, 132), (0, a1), (0, 0)]) (pc := 1) dX2_firstAlike_1 rfl (Nat.le_of_ble_eq_true rfl) rfl ?_
  exact hq sc d hd
theorem k2_firstAlike_2_r {l1 l2 : Int} {M : pm_M} {K : Int → pm_M → Prop} (hq : (if l2 < l1 then ((0 ≤ l2 ∧ l2 < 480) ∧ (if gI M 136 l2 = l2 then k2_endAlike l2 l1 M (fun r5 M4 => (if r5 = 0 then k2_firstAlike_2 l1 (w32 (l2 + 1)) M4 K else K l2 M4)) else k2_firstAlike_2 l1 (w32 (l2 + 1)) M K)) else K l1 M)) : k2_firstAlike_2 l1 l2 M K := by
  intro sc d hd
  refine fr_iload_n (pc := 2) dX2_firstAlike_2 rfl rfl ?_
  refine fr_iload_n (pc := 3) dX2_firstAlike_3 rfl rfl ?_
  refine fr_icm_ge (tg := 34) (pc := 4) dX2_firstAlike_4 rfl hq (fun hc1 hq => ?_) (fun hc1 hq => ?_)
  · refine fr_aload_n (pc := 7) dX2_firstAlike_7 rfl rfl ?_
    refine fr_getr (a := 132) (pc := 8) dX2_firstAlike_8 rfl pf_2_21 s0_132 rfl rf_132_8 ?_
    refine fr_iload_n (pc := 11) dX2_firstAlike_11 rfl rfl ?_
    obtain ⟨hb2, hq⟩ := hq
    refine fr_iaload (a := 136) (v := gI M 136 l2) (pc := 12) dX2_firstAlike_12 rfl s0_136 hb2 rfl ?_
    refine fr_iload_n (pc := 13) dX2_firstAlike_13 rfl rfl ?_
    refine fr_icm_ne (tg := 28) (pc := 14) dX2_firstAlike_14 rfl hq (fun hc3 hq => ?_) (fun hc3 hq => ?_)
    · refine fr_aload_n (pc := 17) dX2_firstAlike_17 rfl rfl ?_
      refine fr_iload_n (pc := 18) dX2_firstAlike_18 rfl rfl ?_
      refine fr_iload_n (pc := 19) dX2_firstAlike_19 rfl rfl ?_
      refine fr_inVI (a := 132) (as := [(0, l2), (0, l1)]) (rest := []) (ls' := [(2, 132), (0, l2), (0, l1), (9, 0)]) (c1 := 0) (c2 := 0) (pc := 20) dX2_firstAlike_20 pl_2_132 rfl ⟨Nat.le_of_ble_eq_true rfl, Nat.le_of_ble_eq_true rfl⟩ rfl rfl rfl s0_132 (Nat.le_of_ble_eq_true rfl) (by omega) rfl rfl (pm_zc _) (hq sc _ (by omega)) (fun r5 M4 hq => ?_)
      refine fr_ifc_eq (tg := 28) (pc := 23) dX2_firstAlike_23 rfl hq (fun hc6 hq => ?_) (fun hc6 hq => ?_)
      · refine fr_iinc (z := w32 (l2 + 1)) (ls2 := [(2, 132), (0, l1), (0, w32 (l2 + 1))]) (pc := 28) dX2_firstAlike_28 (Nat.le_of_ble_eq_true rfl) rfl rfl rfl ?_
        refine fr_goto (tg := 2) (pc := 31) dX2_firstAlike_31 rfl ?_
        exact hq sc d hd
      · refine fr_iload_n (pc := 26) dX2_firstAlike_26 rfl rfl ?_
        exact fr_iret (pc := 27) dX2_firstAlike_27 (Or.inl rfl) hq
    · refine fr_iinc (z := w32 (l2 + 1)) (ls2 := [(2, 132), (0, l1), (0, w32 (l2 + 1))]) (pc := 28) dX2_firstAlike_28 (Nat.le_of_ble_eq_true rfl) rfl rfl rfl ?_
      refine fr_goto (tg := 2) (pc := 31) dX2_firstAlike_31 rfl ?_
      exact hq sc d hd
  · refine fr_iload_n (pc := 34) dX2_firstAlike_34 rfl rfl ?_
    exact fr_iret (pc := 35) dX2_firstAlike_35 (Or.inl rfl) hq
theorem k2_endAlike_r {a1 a2 : Int} {M : pm_M} {K : Int → pm_M → Prop} (hq : k2_endAlike_2 a1 a2 0 M K) : k2_endAlike a1 a2 M K := by
  intro sc d hd
  refine fr_iconst (pc := 0) dX2_endAlike_0 (by decide) ?_
  refine fr_istore_n (ls2 := [(2, 132), (0, a1), (0, a2), (0, 0)]) (pc := 1) dX2_endAlike_1 rfl (Nat.le_of_ble_eq_true rfl) rfl ?_
  exact hq sc d hd
theorem k2_endAlike_2_r {l1 l2 l3 : Int} {M : pm_M} {K : Int → pm_M → Prop} (hq : (if l3 < gI M 18 1 then ((0 ≤ w32 ((w32 (l1 * 16)) + l3) ∧ w32 ((w32 (l1 * 16)) + l3) < 7680) ∧ ((0 ≤ w32 ((w32 (l2 * 16)) + l3) ∧ w32 ((w32 (l2 * 16)) + l3) < 7680) ∧ (if pm_lcmp (gI M 137 (w32 ((w32 (l1 * 16)) + l3))) (gI M 137 (w32 ((w32 (l2 * 16)) + l3))) = 0 then k2_endAlike_2 l1 l2 (w32 (l3 + 1)) M K else K 0 M))) else K 1 M)) : k2_endAlike_2 l1 l2 l3 M K := by
  intro sc d hd
  refine fr_iload_n (pc := 2) dX2_endAlike_2 rfl rfl ?_
  refine fr_aload_n (pc := 3) dX2_endAlike_3 rfl rfl ?_
  refine fr_getr (a := 132) (pc := 4) dX2_endAlike_4 rfl pf_2_32 s0_132 rfl rf_132_1 ?_
  refine fr_getf (a := 18) (i := 1) (v := gI M 18 1) (t := 0) (pc := 7) dX2_endAlike_7 rfl pf_2_110 rfl s0_18 rfl rfl ?_
  refine fr_icm_ge (tg := 47) (pc := 10) dX2_endAlike_10 rfl hq (fun hc1 hq => ?_) (fun hc1 hq => ?_)
  · refine fr_aload_n (pc := 13) dX2_endAlike_13 rfl rfl ?_
    refine fr_getr (a := 132) (pc := 14) dX2_endAlike_14 rfl pf_2_24 s0_132 rfl rf_132_9 ?_
    refine fr_iload_n (pc := 17) dX2_endAlike_17 rfl rfl ?_
    refine fr_bipush (pc := 18) dX2_endAlike_18 (by decide) ?_
    refine fr_imul (z := w32 (l1 * 16)) (pc := 20) dX2_endAlike_20 rfl ?_
    refine fr_iload_n (pc := 21) dX2_endAlike_21 rfl rfl ?_
    refine fr_iadd (z := w32 ((w32 (l1 * 16)) + l3)) (pc := 22) dX2_endAlike_22 rfl ?_
    obtain ⟨hb2, hq⟩ := hq
    refine fr_laload (a := 137) (v := gI M 137 (w32 ((w32 (l1 * 16)) + l3))) (pc := 23) dX2_endAlike_23 rfl s0_137 hb2 rfl ?_
    refine fr_aload_n (pc := 24) dX2_endAlike_24 rfl rfl ?_
    refine fr_getr (a := 132) (pc := 25) dX2_endAlike_25 rfl pf_2_24 s0_132 rfl rf_132_9 ?_
    refine fr_iload_n (pc := 28) dX2_endAlike_28 rfl rfl ?_
    refine fr_bipush (pc := 29) dX2_endAlike_29 (by decide) ?_
    refine fr_imul (z := w32 (l2 * 16)) (pc := 31) dX2_endAlike_31 rfl ?_
    refine fr_iload_n (pc := 32) dX2_endAlike_32 rfl rfl ?_
    refine fr_iadd (z := w32 ((w32 (l2 * 16)) + l3)) (pc := 33) dX2_endAlike_33 rfl ?_
    obtain ⟨hb3, hq⟩ := hq
    refine fr_laload (a := 137) (v := gI M 137 (w32 ((w32 (l2 * 16)) + l3))) (pc := 34) dX2_endAlike_34 rfl s0_137 hb3 rfl ?_
    refine fr_lcmp (pc := 35) dX2_endAlike_35 ?_
    refine fr_ifc_eq (tg := 41) (pc := 36) dX2_endAlike_36 rfl hq (fun hc4 hq => ?_) (fun hc4 hq => ?_)
    · refine fr_iinc (z := w32 (l3 + 1)) (ls2 := [(2, 132), (0, l1), (0, l2), (0, w32 (l3 + 1))]) (pc := 41) dX2_endAlike_41 (Nat.le_of_ble_eq_true rfl) rfl rfl rfl ?_
      refine fr_goto (tg := 2) (pc := 44) dX2_endAlike_44 rfl ?_
      exact hq sc d hd
    · refine fr_iconst (pc := 39) dX2_endAlike_39 (by decide) ?_
      exact fr_iret (pc := 40) dX2_endAlike_40 (Or.inr (Or.inl ⟨rfl, Or.inl rfl⟩)) hq
  · refine fr_iconst (pc := 47) dX2_endAlike_47 (by decide) ?_
    exact fr_iret (pc := 48) dX2_endAlike_48 (Or.inr (Or.inl ⟨rfl, Or.inr rfl⟩)) hq
theorem k11_unlike_r {M : pm_M} {K : Int → pm_M → Prop} (hq : k11_learnMends M (fun M1 => k2_kinds M1 (fun r4 M3 => K r4 M3))) : k11_unlike M K := by
  intro sc d hd
  refine fr_aload_n (pc := 0) dX11_unlike_0 rfl rfl ?_
  refine fr_inVV (a := 0) (as := []) (rest := []) (ls' := [(2, 0)]) (c1 := 0) (c2 := 0) (pc := 1) dX11_unlike_1 pl_11_240 rfl ⟨Nat.le_of_ble_eq_true rfl, Nat.le_of_ble_eq_true rfl⟩ rfl rfl rfl s0_0 (Nat.le_of_ble_eq_true rfl) (by omega) rfl rfl (pm_zc _) (hq sc _ (by omega)) (fun M1 hq => ?_)
  refine fr_aload_n (pc := 4) dX11_unlike_4 rfl rfl ?_
  refine fr_getr (a := 0) (pc := 5) dX11_unlike_5 rfl pf_11_86 s0_0 rfl rf_0_11 ?_
  refine fr_inVI (a := 132) (as := []) (rest := []) (ls' := [(2, 132), (9, 0), (9, 0)]) (c1 := 0) (c2 := 0) (pc := 8) dX11_unlike_8 pl_11_261 rfl ⟨Nat.le_of_ble_eq_true rfl, Nat.le_of_ble_eq_true rfl⟩ rfl rfl rfl s0_132 (Nat.le_of_ble_eq_true rfl) (by omega) rfl rfl (pm_zc _) (hq sc _ (by omega)) (fun r4 M3 hq => ?_)
  exact fr_iret (pc := 11) dX11_unlike_11 (Or.inl rfl) hq
theorem k2_kinds_r {M : pm_M} {K : Int → pm_M → Prop} (hq : k2_kinds_4 0 0 M K) : k2_kinds M K := by
  intro sc d hd
  refine fr_iconst (pc := 0) dX2_kinds_0 (by decide) ?_
  refine fr_istore_n (ls2 := [(2, 132), (0, 0), (9, 0)]) (pc := 1) dX2_kinds_1 rfl (Nat.le_of_ble_eq_true rfl) rfl ?_
  refine fr_iconst (pc := 2) dX2_kinds_2 (by decide) ?_
  refine fr_istore_n (ls2 := [(2, 132), (0, 0), (0, 0)]) (pc := 3) dX2_kinds_3 rfl (Nat.le_of_ble_eq_true rfl) rfl ?_
  exact hq sc d hd
theorem k2_kinds_4_r {l1 l2 : Int} {M : pm_M} {K : Int → pm_M → Prop} (hq : (if l2 < gI M 132 10 then ((0 ≤ l2 ∧ l2 < 480) ∧ (if gI M 136 l2 = l2 then k2_kinds_4 (w32 (l1 + 1)) (w32 (l2 + 1)) M K else k2_kinds_4 l1 (w32 (l2 + 1)) M K)) else K l1 M)) : k2_kinds_4 l1 l2 M K := by
  intro sc d hd
  refine fr_iload_n (pc := 4) dX2_kinds_4 rfl rfl ?_
  refine fr_aload_n (pc := 5) dX2_kinds_5 rfl rfl ?_
  refine fr_getf (a := 132) (i := 10) (v := gI M 132 10) (t := 0) (pc := 6) dX2_kinds_6 rfl pf_2_52 rfl s0_132 rfl rfl ?_
  refine fr_icm_ge (tg := 31) (pc := 9) dX2_kinds_9 rfl hq (fun hc1 hq => ?_) (fun hc1 hq => ?_)
  · refine fr_aload_n (pc := 12) dX2_kinds_12 rfl rfl ?_
    refine fr_getr (a := 132) (pc := 13) dX2_kinds_13 rfl pf_2_21 s0_132 rfl rf_132_8 ?_
    refine fr_iload_n (pc := 16) dX2_kinds_16 rfl rfl ?_
    obtain ⟨hb2, hq⟩ := hq
    refine fr_iaload (a := 136) (v := gI M 136 l2) (pc := 17) dX2_kinds_17 rfl s0_136 hb2 rfl ?_
    refine fr_iload_n (pc := 18) dX2_kinds_18 rfl rfl ?_
    refine fr_icm_ne (tg := 25) (pc := 19) dX2_kinds_19 rfl hq (fun hc3 hq => ?_) (fun hc3 hq => ?_)
    · refine fr_iinc (z := w32 (l1 + 1)) (ls2 := [(2, 132), (0, w32 (l1 + 1)), (0, l2)]) (pc := 22) dX2_kinds_22 (Nat.le_of_ble_eq_true rfl) rfl rfl rfl ?_
      refine fr_iinc (z := w32 (l2 + 1)) (ls2 := [(2, 132), (0, w32 (l1 + 1)), (0, w32 (l2 + 1))]) (pc := 25) dX2_kinds_25 (Nat.le_of_ble_eq_true rfl) rfl rfl rfl ?_
      refine fr_goto (tg := 4) (pc := 28) dX2_kinds_28 rfl ?_
      exact hq sc d hd
    · refine fr_iinc (z := w32 (l2 + 1)) (ls2 := [(2, 132), (0, l1), (0, w32 (l2 + 1))]) (pc := 25) dX2_kinds_25 (Nat.le_of_ble_eq_true rfl) rfl rfl rfl ?_
      refine fr_goto (tg := 4) (pc := 28) dX2_kinds_28 rfl ?_
      exact hq sc d hd
  · refine fr_iload_n (pc := 31) dX2_kinds_31 rfl rfl ?_
    exact fr_iret (pc := 32) dX2_kinds_32 (Or.inl rfl) hq
theorem k11_best_r {M : pm_M} {K : Int → pm_M → Prop} (hq : k11_learnMends M (fun M1 => k2_fittest M1 (fun r4 M3 => K r4 M3))) : k11_best M K := by
  intro sc d hd
  refine fr_aload_n (pc := 0) dX11_best_0 rfl rfl ?_
  refine fr_inVV (a := 0) (as := []) (rest := []) (ls' := [(2, 0)]) (c1 := 0) (c2 := 0) (pc := 1) dX11_best_1 pl_11_240 rfl ⟨Nat.le_of_ble_eq_true rfl, Nat.le_of_ble_eq_true rfl⟩ rfl rfl rfl s0_0 (Nat.le_of_ble_eq_true rfl) (by omega) rfl rfl (pm_zc _) (hq sc _ (by omega)) (fun M1 hq => ?_)
  refine fr_aload_n (pc := 4) dX11_best_4 rfl rfl ?_
  refine fr_getr (a := 0) (pc := 5) dX11_best_5 rfl pf_11_86 s0_0 rfl rf_0_11 ?_
  refine fr_inVI (a := 132) (as := []) (rest := []) (ls' := [(2, 132), (9, 0), (9, 0)]) (c1 := 0) (c2 := 0) (pc := 8) dX11_best_8 pl_11_264 rfl ⟨Nat.le_of_ble_eq_true rfl, Nat.le_of_ble_eq_true rfl⟩ rfl rfl rfl s0_132 (Nat.le_of_ble_eq_true rfl) (by omega) rfl rfl (pm_zc _) (hq sc _ (by omega)) (fun r4 M3 hq => ?_)
  exact fr_iret (pc := 11) dX11_best_11 (Or.inl rfl) hq
theorem k2_fittest_r {M : pm_M} {K : Int → pm_M → Prop} (hq : k2_fittest_4 (-1) 0 M K) : k2_fittest M K := by
  intro sc d hd
  refine fr_iconst (pc := 0) dX2_fittest_0 (by decide) ?_
  refine fr_istore_n (ls2 := [(2, 132), (0, (-1)), (9, 0)]) (pc := 1) dX2_fittest_1 rfl (Nat.le_of_ble_eq_true rfl) rfl ?_
  refine fr_iconst (pc := 2) dX2_fittest_2 (by decide) ?_
  refine fr_istore_n (ls2 := [(2, 132), (0, (-1)), (0, 0)]) (pc := 3) dX2_fittest_3 rfl (Nat.le_of_ble_eq_true rfl) rfl ?_
  exact hq sc d hd
theorem k2_fittest_4_r {l1 l2 : Int} {M : pm_M} {K : Int → pm_M → Prop} (hq : (if l2 < gI M 132 10 then (if l1 = (-1) then k2_fittest_4 l2 (w32 (l2 + 1)) M K else ((0 ≤ l2 ∧ l2 < 480) ∧ ((0 ≤ l1 ∧ l1 < 480) ∧ (if gI M 135 l2 ≤ gI M 135 l1 then k2_fittest_4 l1 (w32 (l2 + 1)) M K else k2_fittest_4 l2 (w32 (l2 + 1)) M K)))) else K l1 M)) : k2_fittest_4 l1 l2 M K := by
  intro sc d hd
  refine fr_iload_n (pc := 4) dX2_fittest_4 rfl rfl ?_
  refine fr_aload_n (pc := 5) dX2_fittest_5 rfl rfl ?_
  refine fr_getf (a := 132) (i := 10) (v := gI M 132 10) (t := 0) (pc := 6) dX2_fittest_6 rfl pf_2_52 rfl s0_132 rfl rfl ?_
  refine fr_icm_ge (tg := 40) (pc := 9) dX2_fittest_9 rfl hq (fun hc1 hq => ?_) (fun hc1 hq => ?_)
  · refine fr_iload_n (pc := 12) dX2_fittest_12 rfl rfl ?_
    refine fr_iconst (pc := 13) dX2_fittest_13 (by decide) ?_
    refine fr_icm_eq (tg := 32) (pc := 14) dX2_fittest_14 rfl hq (fun hc2 hq => ?_) (fun hc2 hq => ?_)
    · refine fr_iload_n (pc := 32) dX2_fittest_32 rfl rfl ?_
      refine fr_istore_n (ls2 := [(2, 132), (0, l2), (0, l2)]) (pc := 33) dX2_fittest_33 rfl (Nat.le_of_ble_eq_true rfl) rfl ?_
      refine fr_iinc (z := w32 (l2 + 1)) (ls2 := [(2, 132), (0, l2), (0, w32 (l2 + 1))]) (pc := 34) dX2_fittest_34 (Nat.le_of_ble_eq_true rfl) rfl rfl rfl ?_
      refine fr_goto (tg := 4) (pc := 37) dX2_fittest_37 rfl ?_
      exact hq sc d hd
    · refine fr_aload_n (pc := 17) dX2_fittest_17 rfl rfl ?_
      refine fr_getr (a := 132) (pc := 18) dX2_fittest_18 rfl pf_2_18 s0_132 rfl rf_132_7 ?_
      refine fr_iload_n (pc := 21) dX2_fittest_21 rfl rfl ?_
      obtain ⟨hb3, hq⟩ := hq
      refine fr_iaload (a := 135) (v := gI M 135 l2) (pc := 22) dX2_fittest_22 rfl s0_135 hb3 rfl ?_
      refine fr_aload_n (pc := 23) dX2_fittest_23 rfl rfl ?_
      refine fr_getr (a := 132) (pc := 24) dX2_fittest_24 rfl pf_2_18 s0_132 rfl rf_132_7 ?_
      refine fr_iload_n (pc := 27) dX2_fittest_27 rfl rfl ?_
      obtain ⟨hb4, hq⟩ := hq
      refine fr_iaload (a := 135) (v := gI M 135 l1) (pc := 28) dX2_fittest_28 rfl s0_135 hb4 rfl ?_
      refine fr_icm_le (tg := 34) (pc := 29) dX2_fittest_29 rfl hq (fun hc5 hq => ?_) (fun hc5 hq => ?_)
      · refine fr_iinc (z := w32 (l2 + 1)) (ls2 := [(2, 132), (0, l1), (0, w32 (l2 + 1))]) (pc := 34) dX2_fittest_34 (Nat.le_of_ble_eq_true rfl) rfl rfl rfl ?_
        refine fr_goto (tg := 4) (pc := 37) dX2_fittest_37 rfl ?_
        exact hq sc d hd
      · refine fr_iload_n (pc := 32) dX2_fittest_32 rfl rfl ?_
        refine fr_istore_n (ls2 := [(2, 132), (0, l2), (0, l2)]) (pc := 33) dX2_fittest_33 rfl (Nat.le_of_ble_eq_true rfl) rfl ?_
        refine fr_iinc (z := w32 (l2 + 1)) (ls2 := [(2, 132), (0, l2), (0, w32 (l2 + 1))]) (pc := 34) dX2_fittest_34 (Nat.le_of_ble_eq_true rfl) rfl rfl rfl ?_
        refine fr_goto (tg := 4) (pc := 37) dX2_fittest_37 rfl ?_
        exact hq sc d hd
  · refine fr_iload_n (pc := 40) dX2_fittest_40 rfl rfl ?_
    exact fr_iret (pc := 41) dX2_fittest_41 (Or.inl rfl) hq
theorem k11_pair_r {a1 : Int} {M : pm_M} {K : Int → pm_M → Prop} (hq : (if a1 < 0 then K (-1) M else (if a1 ≤ 4 then k11_learnMends M (fun M3 => k3_find (gI M3 132 10) M3 (fun M5 => (if gI M5 138 13 = 0 then K (-2) M5 else (if a1 = 0 then K (gI M5 138 8) M5 else (if a1 = 1 then K (gI M5 138 9) M5 else (if a1 = 2 then K (gI M5 138 10) M5 else (if a1 = 3 then K (gI M5 138 11) M5 else K (gI M5 138 12) M5))))))) else K (-1) M))) : k11_pair a1 M K := by
  intro sc d hd
  refine fr_iload_n (pc := 0) dX11_pair_0 rfl rfl ?_
  refine fr_ifc_lt (tg := 9) (pc := 1) dX11_pair_1 rfl hq (fun hc1 hq => ?_) (fun hc1 hq => ?_)
  · refine fr_iconst (pc := 9) dX11_pair_9 (by decide) ?_
    exact fr_iret (pc := 10) dX11_pair_10 (Or.inl rfl) hq
  · refine fr_iload_n (pc := 4) dX11_pair_4 rfl rfl ?_
    refine fr_iconst (pc := 5) dX11_pair_5 (by decide) ?_
    refine fr_icm_le (tg := 11) (pc := 6) dX11_pair_6 rfl hq (fun hc2 hq => ?_) (fun hc2 hq => ?_)
    · refine fr_aload_n (pc := 11) dX11_pair_11 rfl rfl ?_
      refine fr_inVV (a := 0) (as := []) (rest := []) (ls' := [(2, 0)]) (c1 := 0) (c2 := 0) (pc := 12) dX11_pair_12 pl_11_240 rfl ⟨Nat.le_of_ble_eq_true rfl, Nat.le_of_ble_eq_true rfl⟩ rfl rfl rfl s0_0 (Nat.le_of_ble_eq_true rfl) (by omega) rfl rfl (pm_zc _) (hq sc _ (by omega)) (fun M3 hq => ?_)
      refine fr_aload_n (pc := 15) dX11_pair_15 rfl rfl ?_
      refine fr_getr (a := 0) (pc := 16) dX11_pair_16 rfl pf_11_93 s0_0 rfl rf_0_12 ?_
      refine fr_aload_n (pc := 19) dX11_pair_19 rfl rfl ?_
      refine fr_getr (a := 0) (pc := 20) dX11_pair_20 rfl pf_11_86 s0_0 rfl rf_0_11 ?_
      refine fr_getf (a := 132) (i := 10) (v := gI M3 132 10) (t := 0) (pc := 23) dX11_pair_23 rfl pf_11_243 rfl s0_132 rfl rfl ?_
      refine fr_inVV (a := 138) (as := [(0, gI M3 132 10)]) (rest := []) (ls' := [(2, 138), (0, gI M3 132 10), (9, 0)]) (c1 := 0) (c2 := 0) (pc := 26) dX11_pair_26 pl_11_267 rfl ⟨Nat.le_of_ble_eq_true rfl, Nat.le_of_ble_eq_true rfl⟩ rfl rfl rfl s0_138 (Nat.le_of_ble_eq_true rfl) (by omega) rfl rfl (pm_zc _) (hq sc _ (by omega)) (fun M5 hq => ?_)
      refine fr_aload_n (pc := 29) dX11_pair_29 rfl rfl ?_
      refine fr_getr (a := 0) (pc := 30) dX11_pair_30 rfl pf_11_93 s0_0 rfl rf_0_12 ?_
      refine fr_getf (a := 138) (i := 13) (v := gI M5 138 13) (t := 0) (pc := 33) dX11_pair_33 rfl pf_11_270 rfl s0_138 rfl rfl ?_
      refine fr_ifc_ne (tg := 42) (pc := 36) dX11_pair_36 rfl hq (fun hc7 hq => ?_) (fun hc7 hq => ?_)
      · refine fr_bipush (pc := 39) dX11_pair_39 (by decide) ?_
        exact fr_iret (pc := 41) dX11_pair_41 (Or.inl rfl) hq
      · refine fr_iload_n (pc := 42) dX11_pair_42 rfl rfl ?_
        refine pm_ite hq (fun hc8 hq => ?_) (fun hc8 hq => ?_)
        · refine fr_tabV (tg := 72) (off := 29) (v := 0) (pc := 43) dX11_pair_43 hc8 (by decide) rfl rfl ?_
          refine fr_aload_n (pc := 72) dX11_pair_72 rfl rfl ?_
          refine fr_getr (a := 0) (pc := 73) dX11_pair_73 rfl pf_11_93 s0_0 rfl rf_0_12 ?_
          refine fr_getf (a := 138) (i := 8) (v := gI M5 138 8) (t := 0) (pc := 76) dX11_pair_76 rfl pf_11_274 rfl s0_138 rfl rfl ?_
          exact fr_iret (pc := 79) dX11_pair_79 (Or.inl rfl) hq
        · refine pm_ite hq (fun hc9 hq => ?_) (fun hc9 hq => ?_)
          · refine fr_tabV (tg := 80) (off := 37) (v := 1) (pc := 43) dX11_pair_43 hc9 (by decide) rfl rfl ?_
            refine fr_aload_n (pc := 80) dX11_pair_80 rfl rfl ?_
            refine fr_getr (a := 0) (pc := 81) dX11_pair_81 rfl pf_11_93 s0_0 rfl rf_0_12 ?_
            refine fr_getf (a := 138) (i := 9) (v := gI M5 138 9) (t := 0) (pc := 84) dX11_pair_84 rfl pf_11_277 rfl s0_138 rfl rfl ?_
            exact fr_iret (pc := 87) dX11_pair_87 (Or.inl rfl) hq
          · refine pm_ite hq (fun hc10 hq => ?_) (fun hc10 hq => ?_)
            · refine fr_tabV (tg := 88) (off := 45) (v := 2) (pc := 43) dX11_pair_43 hc10 (by decide) rfl rfl ?_
              refine fr_aload_n (pc := 88) dX11_pair_88 rfl rfl ?_
              refine fr_getr (a := 0) (pc := 89) dX11_pair_89 rfl pf_11_93 s0_0 rfl rf_0_12 ?_
              refine fr_getf (a := 138) (i := 10) (v := gI M5 138 10) (t := 0) (pc := 92) dX11_pair_92 rfl pf_11_280 rfl s0_138 rfl rfl ?_
              exact fr_iret (pc := 95) dX11_pair_95 (Or.inl rfl) hq
            · refine pm_ite hq (fun hc11 hq => ?_) (fun hc11 hq => ?_)
              · refine fr_tabV (tg := 96) (off := 53) (v := 3) (pc := 43) dX11_pair_43 hc11 (by decide) rfl rfl ?_
                refine fr_aload_n (pc := 96) dX11_pair_96 rfl rfl ?_
                refine fr_getr (a := 0) (pc := 97) dX11_pair_97 rfl pf_11_93 s0_0 rfl rf_0_12 ?_
                refine fr_getf (a := 138) (i := 11) (v := gI M5 138 11) (t := 0) (pc := 100) dX11_pair_100 rfl pf_11_283 rfl s0_138 rfl rfl ?_
                exact fr_iret (pc := 103) dX11_pair_103 (Or.inl rfl) hq
              · refine fr_tableO (tg := 104) (pc := 43) dX11_pair_43 (by omega) rfl ?_
                refine fr_aload_n (pc := 104) dX11_pair_104 rfl rfl ?_
                refine fr_getr (a := 0) (pc := 105) dX11_pair_105 rfl pf_11_93 s0_0 rfl rf_0_12 ?_
                refine fr_getf (a := 138) (i := 12) (v := gI M5 138 12) (t := 0) (pc := 108) dX11_pair_108 rfl pf_11_286 rfl s0_138 rfl rfl ?_
                exact fr_iret (pc := 111) dX11_pair_111 (Or.inl rfl) hq
    · refine fr_iconst (pc := 9) dX11_pair_9 (by decide) ?_
      exact fr_iret (pc := 10) dX11_pair_10 (Or.inl rfl) hq
theorem k3_find_r {a1 : Int} {M : pm_M} {K : pm_M → Prop} (hq : (if gI M 138 14 = 0 then (if gI M 77 11 = 0 then K (upI (upI M 138 14 1) 138 13 0) else (if a1 ≤ 0 then k3_find_40 0 (upI (upI (upI M 138 14 1) 138 13 0) 138 7 0) K else K (upI (upI M 138 14 1) 138 13 0))) else K M)) : k3_find a1 M K := by
  intro sc d hd
  refine fr_aload_n (pc := 0) dX3_find_0 rfl rfl ?_
  refine fr_getf (a := 138) (i := 14) (v := gI M 138 14) (t := 0) (pc := 1) dX3_find_1 rfl pf_3_39 rfl s0_138 rfl rfl ?_
  refine fr_ifc_eq (tg := 8) (pc := 4) dX3_find_4 rfl hq (fun hc1 hq => ?_) (fun hc1 hq => ?_)
  · refine fr_aload_n (pc := 8) dX3_find_8 rfl rfl ?_
    refine fr_iconst (pc := 9) dX3_find_9 (by decide) ?_
    refine fr_put (a := 138) (i := 14) (pc := 10) dX3_find_10 rfl pf_3_39 rfl s0_138 rfl rfl nf_138_14 rfl ?_
    refine fr_aload_n (pc := 13) dX3_find_13 rfl rfl ?_
    refine fr_iconst (pc := 14) dX3_find_14 (by decide) ?_
    refine fr_put (a := 138) (i := 13) (pc := 15) dX3_find_15 rfl pf_3_43 rfl s0_138 rfl rfl nf_138_13 rfl ?_
    refine fr_aload_n (pc := 18) dX3_find_18 rfl rfl ?_
    refine fr_getr (a := 138) (pc := 19) dX3_find_19 rfl pf_3_31 s0_138 rfl rf_138_3 ?_
    refine fr_getf (a := 77) (i := 11) (v := gI M 77 11) (t := 0) (pc := 22) dX3_find_22 rfl pf_3_46 rfl s0_77 rfl ((gI_ne _ _ _ _ (by decide)).trans (gI_ne _ _ _ _ (by decide))) ?_
    refine fr_ifc_eq (tg := 32) (pc := 25) dX3_find_25 rfl hq (fun hc2 hq => ?_) (fun hc2 hq => ?_)
    · exact fr_vret (pc := 32) dX3_find_32 rfl hq
    · refine fr_iload_n (pc := 28) dX3_find_28 rfl rfl ?_
      refine fr_ifc_le (tg := 33) (pc := 29) dX3_find_29 rfl hq (fun hc3 hq => ?_) (fun hc3 hq => ?_)
      · refine fr_aload_n (pc := 33) dX3_find_33 rfl rfl ?_
        refine fr_lconst (pc := 34) dX3_find_34 rfl ?_
        refine fr_put (a := 138) (i := 7) (pc := 35) dX3_find_35 rfl pf_3_52 rfl s0_138 rfl rfl nf_138_7 rfl ?_
        refine fr_iconst (pc := 38) dX3_find_38 (by decide) ?_
        refine fr_istore_n (ls2 := [(2, 138), (0, a1), (0, 0)]) (pc := 39) dX3_find_39 rfl (Nat.le_of_ble_eq_true rfl) rfl ?_
        exact hq sc d hd (0, a1) pm_t0
      · exact fr_vret (pc := 32) dX3_find_32 rfl hq
  · exact fr_vret (pc := 7) dX3_find_7 rfl hq
theorem k3_find_40_r {l2 : Int} {M : pm_M} {K : pm_M → Prop} (hq : (if l2 < 6 then (if l2 < gI M 2 16 then ((0 ≤ l2 ∧ l2 < 20) ∧ k3_find_40 (w32 (l2 + 1)) (upI M 138 7 (pm_lor (gI M 138 7) (pm_lshl 1 (gI M 130 l2)))) K) else k3_learnWhatFails M (fun M4 => k3_find_91 0 M4 K)) else k3_learnWhatFails M (fun M6 => k3_find_91 0 M6 K))) : k3_find_40 l2 M K := by
  intro sc d hd z1 hz1
  refine fr_iload_n (pc := 40) dX3_find_40 rfl rfl ?_
  refine fr_bipush (pc := 41) dX3_find_41 (by decide) ?_
  refine fr_icm_ge (tg := 85) (pc := 43) dX3_find_43 rfl hq (fun hc1 hq => ?_) (fun hc1 hq => ?_)
  · refine fr_iload_n (pc := 46) dX3_find_46 rfl rfl ?_
    refine fr_aload_n (pc := 47) dX3_find_47 rfl rfl ?_
    refine fr_getr (a := 138) (pc := 48) dX3_find_48 rfl pf_3_19 s0_138 rfl rf_138_0 ?_
    refine fr_getf (a := 2) (i := 16) (v := gI M 2 16) (t := 0) (pc := 51) dX3_find_51 rfl pf_3_56 rfl s0_2 rfl rfl ?_
    refine fr_icm_ge (tg := 85) (pc := 54) dX3_find_54 rfl hq (fun hc2 hq => ?_) (fun hc2 hq => ?_)
    · refine fr_aload_n (pc := 57) dX3_find_57 rfl rfl ?_
      refine fr_dup (pc := 58) dX3_find_58 pm_t2 ?_
      refine fr_getf (a := 138) (i := 7) (v := gI M 138 7) (t := 1) (pc := 59) dX3_find_59 rfl pf_3_52 rfl s0_138 rfl rfl ?_
      refine fr_lconst (pc := 62) dX3_find_62 rfl ?_
      refine fr_aload_n (pc := 63) dX3_find_63 rfl rfl ?_
      refine fr_getr (a := 138) (pc := 64) dX3_find_64 rfl pf_3_35 s0_138 rfl rf_138_4 ?_
      refine fr_getr (a := 117) (pc := 67) dX3_find_67 rfl pf_3_61 s0_117 rfl rf_117_6 ?_
      refine fr_iconst (pc := 70) dX3_find_70 (by decide) ?_
      refine fr_aaload (a := 128) (pc := 71) dX3_find_71 rfl s0_128 (by decide) rws_128 ?_
      refine fr_iload_n (pc := 72) dX3_find_72 rfl rfl ?_
      obtain ⟨hb3, hq⟩ := hq
      refine fr_iaload (a := 130) (v := gI M 130 l2) (pc := 73) dX3_find_73 rfl s0_130 hb3 rfl ?_
      refine fr_lshl (pc := 74) dX3_find_74 ?_
      refine fr_lor (pc := 75) dX3_find_75 ?_
      refine fr_put (a := 138) (i := 7) (pc := 76) dX3_find_76 rfl pf_3_52 rfl s0_138 rfl rfl nf_138_7 rfl ?_
      refine fr_iinc (z := w32 (l2 + 1)) (ls2 := [(2, 138), z1, (0, w32 (l2 + 1))]) (pc := 79) dX3_find_79 (Nat.le_of_ble_eq_true rfl) rfl rfl (pm_st1z hz1 rfl rfl) ?_
      refine fr_goto (tg := 40) (pc := 82) dX3_find_82 rfl ?_
      exact hq sc d hd z1 hz1
    · refine fr_aload_n (pc := 85) dX3_find_85 rfl rfl ?_
      refine fr_inVV (a := 138) (as := []) (rest := []) (ls' := [(2, 138), (9, 0), (9, 0), (9, 0), (9, 0), (9, 0), (9, 0)]) (c1 := 0) (c2 := 0) (pc := 86) dX3_find_86 pl_3_67 rfl ⟨Nat.le_of_ble_eq_true rfl, Nat.le_of_ble_eq_true rfl⟩ rfl rfl rfl s0_138 (Nat.le_of_ble_eq_true rfl) (by omega) rfl rfl (pm_zc _) (hq sc _ (by omega)) (fun M4 hq => ?_)
      refine fr_iconst (pc := 89) dX3_find_89 (by decide) ?_
      refine fr_istore_n (ls2 := [(2, 138), z1, (0, 0)]) (pc := 90) dX3_find_90 rfl (Nat.le_of_ble_eq_true rfl) (pm_st1z hz1 rfl rfl) ?_
      exact hq sc d hd z1 hz1
  · refine fr_aload_n (pc := 85) dX3_find_85 rfl rfl ?_
    refine fr_inVV (a := 138) (as := []) (rest := []) (ls' := [(2, 138), (9, 0), (9, 0), (9, 0), (9, 0), (9, 0), (9, 0)]) (c1 := 0) (c2 := 0) (pc := 86) dX3_find_86 pl_3_67 rfl ⟨Nat.le_of_ble_eq_true rfl, Nat.le_of_ble_eq_true rfl⟩ rfl rfl rfl s0_138 (Nat.le_of_ble_eq_true rfl) (by omega) rfl rfl (pm_zc _) (hq sc _ (by omega)) (fun M6 hq => ?_)
    refine fr_iconst (pc := 89) dX3_find_89 (by decide) ?_
    refine fr_istore_n (ls2 := [(2, 138), z1, (0, 0)]) (pc := 90) dX3_find_90 rfl (Nat.le_of_ble_eq_true rfl) (pm_st1z hz1 rfl rfl) ?_
    exact hq sc d hd z1 hz1
theorem k3_find_91_r {l2 : Int} {M : pm_M} {K : pm_M → Prop} (hq : (if l2 < gI M 2 15 then (if gI M 138 13 = 0 then ((0 ≤ l2 ∧ l2 < 60) ∧ (if pm_lcmp (pm_land (pm_lshr (gI M 138 7) (gI M 7 l2)) 1) 1 = 0 then k3_tryFirst l2 M (fun M5 => k3_find_91 (w32 (l2 + 1)) M5 K) else k3_find_91 (w32 (l2 + 1)) M K)) else K M) else K M)) : k3_find_91 l2 M K := by
  intro sc d hd z1 hz1
  refine fr_iload_n (pc := 91) dX3_find_91 rfl rfl ?_
  refine fr_aload_n (pc := 92) dX3_find_92 rfl rfl ?_
  refine fr_getr (a := 138) (pc := 93) dX3_find_93 rfl pf_3_19 s0_138 rfl rf_138_0 ?_
  refine fr_getf (a := 2) (i := 15) (v := gI M 2 15) (t := 0) (pc := 96) dX3_find_96 rfl pf_3_70 rfl s0_2 rfl rfl ?_
  refine fr_icm_ge (tg := 132) (pc := 99) dX3_find_99 rfl hq (fun hc1 hq => ?_) (fun hc1 hq => ?_)
  · refine fr_aload_n (pc := 102) dX3_find_102 rfl rfl ?_
    refine fr_getf (a := 138) (i := 13) (v := gI M 138 13) (t := 0) (pc := 103) dX3_find_103 rfl pf_3_43 rfl s0_138 rfl rfl ?_
    refine fr_ifc_ne (tg := 132) (pc := 106) dX3_find_106 rfl hq (fun hc2 hq => ?_) (fun hc2 hq => ?_)
    · refine fr_aload_n (pc := 109) dX3_find_109 rfl rfl ?_
      refine fr_aload_n (pc := 110) dX3_find_110 rfl rfl ?_
      refine fr_getf (a := 138) (i := 7) (v := gI M 138 7) (t := 1) (pc := 111) dX3_find_111 rfl pf_3_52 rfl s0_138 rfl rfl ?_
      refine fr_iload_n (pc := 114) dX3_find_114 rfl rfl ?_
      refine fr_inVI (a := 138) (as := [(1, gI M 138 7), (0, l2)]) (rest := []) (ls' := [(2, 138), (1, gI M 138 7), (9, 0), (0, l2)]) (c1 := 0) (c2 := 0) (pc := 115) dX3_find_115 pl_3_73 rfl ⟨Nat.le_of_ble_eq_true rfl, Nat.le_of_ble_eq_true rfl⟩ rfl rfl rfl s0_138 (Nat.le_of_ble_eq_true rfl) (by omega) rfl rfl (pm_zc _) ?_ (fun y M' h => h)
      refine fr_lload_n (pc := 0) dX3_isIn_0 rfl rfl ?_
      refine fr_aload_n (pc := 1) dX3_isIn_1 rfl rfl ?_
      refine fr_getr (a := 138) (pc := 2) dX3_isIn_2 rfl pf_3_19 s0_138 rfl rf_138_0 ?_
      refine fr_getr (a := 2) (pc := 5) dX3_isIn_5 rfl pf_3_81 s0_2 rfl rf_2_4 ?_
      refine fr_iload_n (pc := 8) dX3_isIn_8 rfl rfl ?_
      obtain ⟨hb3, hq⟩ := hq
      refine fr_iaload (a := 7) (v := gI M 7 l2) (pc := 9) dX3_isIn_9 rfl s0_7 hb3 rfl ?_
      refine fr_lshr (pc := 10) dX3_isIn_10 ?_
      refine fr_lconst (pc := 11) dX3_isIn_11 rfl ?_
      refine fr_land (pc := 12) dX3_isIn_12 ?_
      refine fr_lconst (pc := 13) dX3_isIn_13 rfl ?_
      refine fr_lcmp (pc := 14) dX3_isIn_14 ?_
      refine fr_ifc_ne (tg := 22) (pc := 15) dX3_isIn_15 rfl hq (fun hc4 hq => ?_) (fun hc4 hq => ?_)
      · refine fr_iconst (pc := 18) dX3_isIn_18 (by decide) ?_
        refine fr_goto (tg := 23) (pc := 19) dX3_isIn_19 rfl ?_
        refine fr_iret (pc := 23) dX3_isIn_23 (Or.inr (Or.inl ⟨rfl, Or.inr rfl⟩)) ?_
        refine fr_ifcF (tg := 126) (pc := 118) dX3_find_118 rfl rfl ?_
        refine fr_aload_n (pc := 121) dX3_find_121 rfl rfl ?_
        refine fr_iload_n (pc := 122) dX3_find_122 rfl rfl ?_
        refine fr_inVV (a := 138) (as := [(0, l2)]) (rest := []) (ls' := [(2, 138), (0, l2), (9, 0), (9, 0), (9, 0), (9, 0)]) (c1 := 0) (c2 := 0) (pc := 123) dX3_find_123 pl_3_77 rfl ⟨Nat.le_of_ble_eq_true rfl, Nat.le_of_ble_eq_true rfl⟩ rfl rfl rfl s0_138 (Nat.le_of_ble_eq_true rfl) (by omega) rfl rfl (pm_zc _) (hq sc _ (by omega)) (fun M5 hq => ?_)
        refine fr_iinc (z := w32 (l2 + 1)) (ls2 := [(2, 138), z1, (0, w32 (l2 + 1))]) (pc := 126) dX3_find_126 (Nat.le_of_ble_eq_true rfl) rfl rfl (pm_st1z hz1 rfl rfl) ?_
        refine fr_goto (tg := 91) (pc := 129) dX3_find_129 rfl ?_
        exact hq sc d hd z1 hz1
      · refine fr_iconst (pc := 22) dX3_isIn_22 (by decide) ?_
        refine fr_iret (pc := 23) dX3_isIn_23 (Or.inr (Or.inl ⟨rfl, Or.inl rfl⟩)) ?_
        refine fr_ifcT (tg := 126) (pc := 118) dX3_find_118 rfl rfl ?_
        refine fr_iinc (z := w32 (l2 + 1)) (ls2 := [(2, 138), z1, (0, w32 (l2 + 1))]) (pc := 126) dX3_find_126 (Nat.le_of_ble_eq_true rfl) rfl rfl (pm_st1z hz1 rfl rfl) ?_
        refine fr_goto (tg := 91) (pc := 129) dX3_find_129 rfl ?_
        exact hq sc d hd z1 hz1
    · exact fr_vret (pc := 132) dX3_find_132 rfl hq
  · exact fr_vret (pc := 132) dX3_find_132 rfl hq
theorem k3_learnWhatFails_r {M : pm_M} {K : pm_M → Prop} (hq : k3_learnWhatFails_4 0 0 M K) : k3_learnWhatFails M K := by
  intro sc d hd
  refine fr_iconst (pc := 0) dX3_learnWhatFails_0 (by decide) ?_
  refine fr_istore_n (ls2 := [(2, 138), (0, 0), (9, 0), (9, 0), (9, 0), (9, 0), (9, 0)]) (pc := 1) dX3_learnWhatFails_1 rfl (Nat.le_of_ble_eq_true rfl) rfl ?_
  refine fr_iconst (pc := 2) dX3_learnWhatFails_2 (by decide) ?_
  refine fr_istore_n (ls2 := [(2, 138), (0, 0), (0, 0), (9, 0), (9, 0), (9, 0), (9, 0)]) (pc := 3) dX3_learnWhatFails_3 rfl (Nat.le_of_ble_eq_true rfl) rfl ?_
  exact hq sc d hd (9, 0) pm_t9 (9, 0) pm_t9 (9, 0) pm_t9 (9, 0) pm_t9
theorem k3_learnWhatFails_4_r {l1 l2 : Int} {M : pm_M} {K : pm_M → Prop} (hq : (if l2 < gI M 2 15 then ((0 ≤ l2 ∧ l2 < 60) ∧ (if pm_lcmp (pm_land (pm_lshr (gI M 138 7) (gI M 7 l2)) 1) 1 = 0 then k0_changeCount l2 (upI M 140 l2 l1) (fun r5 M4 => k3_learnWhatFails_72 l1 l2 r5 (gI M4 4 l2) (gI M4 5 l2) 0 M4 K) else k3_learnWhatFails_72 l1 l2 0 (gI M 4 l2) (gI M 5 l2) 0 (upI M 140 l2 l1) K)) else K M)) : k3_learnWhatFails_4 l1 l2 M K := by
  intro sc d hd z3 hz3 z4 hz4 z5 hz5 z6 hz6
  refine fr_iload_n (pc := 4) dX3_learnWhatFails_4 rfl rfl ?_
  refine fr_aload_n (pc := 5) dX3_learnWhatFails_5 rfl rfl ?_
  refine fr_getr (a := 138) (pc := 6) dX3_learnWhatFails_6 rfl pf_3_19 s0_138 rfl rf_138_0 ?_
  refine fr_getf (a := 2) (i := 15) (v := gI M 2 15) (t := 0) (pc := 9) dX3_learnWhatFails_9 rfl pf_3_70 rfl s0_2 rfl rfl ?_
  refine fr_icm_ge (tg := 132) (pc := 12) dX3_learnWhatFails_12 rfl hq (fun hc1 hq => ?_) (fun hc1 hq => ?_)
  · refine fr_aload_n (pc := 15) dX3_learnWhatFails_15 rfl rfl ?_
    refine fr_getr (a := 138) (pc := 16) dX3_learnWhatFails_16 rfl pf_3_15 s0_138 rfl rf_138_6 ?_
    refine fr_iload_n (pc := 19) dX3_learnWhatFails_19 rfl rfl ?_
    refine fr_iload_n (pc := 20) dX3_learnWhatFails_20 rfl rfl ?_
    obtain ⟨hb2, hq⟩ := hq
    refine fr_iastore (a := 140) (pc := 21) dX3_learnWhatFails_21 rfl s0_140 hb2 nr_140 ?_
    refine fr_aload_n (pc := 22) dX3_learnWhatFails_22 rfl rfl ?_
    refine fr_aload_n (pc := 23) dX3_learnWhatFails_23 rfl rfl ?_
    refine fr_getf (a := 138) (i := 7) (v := gI M 138 7) (t := 1) (pc := 24) dX3_learnWhatFails_24 rfl pf_3_52 rfl s0_138 rfl (gI_ne _ _ _ _ (by decide)) ?_
    refine fr_iload_n (pc := 27) dX3_learnWhatFails_27 rfl rfl ?_
    refine fr_inVI (a := 138) (as := [(1, gI M 138 7), (0, l2)]) (rest := []) (ls' := [(2, 138), (1, gI M 138 7), (9, 0), (0, l2)]) (c1 := 0) (c2 := 0) (pc := 28) dX3_learnWhatFails_28 pl_3_73 rfl ⟨Nat.le_of_ble_eq_true rfl, Nat.le_of_ble_eq_true rfl⟩ rfl rfl rfl s0_138 (Nat.le_of_ble_eq_true rfl) (by omega) rfl rfl (pm_zc _) ?_ (fun y M' h => h)
    refine fr_lload_n (pc := 0) dX3_isIn_0 rfl rfl ?_
    refine fr_aload_n (pc := 1) dX3_isIn_1 rfl rfl ?_
    refine fr_getr (a := 138) (pc := 2) dX3_isIn_2 rfl pf_3_19 s0_138 rfl rf_138_0 ?_
    refine fr_getr (a := 2) (pc := 5) dX3_isIn_5 rfl pf_3_81 s0_2 rfl rf_2_4 ?_
    refine fr_iload_n (pc := 8) dX3_isIn_8 rfl rfl ?_
    refine fr_iaload (a := 7) (v := gI M 7 l2) (pc := 9) dX3_isIn_9 rfl s0_7 hb2 (gI_ne _ _ _ _ (by decide)) ?_
    refine fr_lshr (pc := 10) dX3_isIn_10 ?_
    refine fr_lconst (pc := 11) dX3_isIn_11 rfl ?_
    refine fr_land (pc := 12) dX3_isIn_12 ?_
    refine fr_lconst (pc := 13) dX3_isIn_13 rfl ?_
    refine fr_lcmp (pc := 14) dX3_isIn_14 ?_
    refine fr_ifc_ne (tg := 22) (pc := 15) dX3_isIn_15 rfl hq (fun hc3 hq => ?_) (fun hc3 hq => ?_)
    · refine fr_iconst (pc := 18) dX3_isIn_18 (by decide) ?_
      refine fr_goto (tg := 23) (pc := 19) dX3_isIn_19 rfl ?_
      refine fr_iret (pc := 23) dX3_isIn_23 (Or.inr (Or.inl ⟨rfl, Or.inr rfl⟩)) ?_
      refine fr_ifcF (tg := 45) (pc := 31) dX3_learnWhatFails_31 rfl rfl ?_
      refine fr_aload_n (pc := 34) dX3_learnWhatFails_34 rfl rfl ?_
      refine fr_getr (a := 138) (pc := 35) dX3_learnWhatFails_35 rfl pf_3_19 s0_138 rfl rf_138_0 ?_
      refine fr_iload_n (pc := 38) dX3_learnWhatFails_38 rfl rfl ?_
      refine fr_inVI (a := 2) (as := [(0, l2)]) (rest := []) (ls' := [(2, 2), (0, l2)]) (c1 := 0) (c2 := 0) (pc := 39) dX3_learnWhatFails_39 pl_3_84 rfl ⟨Nat.le_of_ble_eq_true rfl, Nat.le_of_ble_eq_true rfl⟩ rfl rfl rfl s0_2 (Nat.le_of_ble_eq_true rfl) (by omega) rfl rfl (pm_zc _) (hq sc _ (by omega)) (fun r5 M4 hq => ?_)
      refine fr_goto (tg := 46) (pc := 42) dX3_learnWhatFails_42 rfl ?_
      refine fr_istore_n (ls2 := [(2, 138), (0, l1), (0, l2), (0, r5), z4, z5, z6]) (pc := 46) dX3_learnWhatFails_46 rfl (Nat.le_of_ble_eq_true rfl) rfl ?_
      refine fr_aload_n (pc := 47) dX3_learnWhatFails_47 rfl rfl ?_
      refine fr_getr (a := 138) (pc := 48) dX3_learnWhatFails_48 rfl pf_3_19 s0_138 rfl rf_138_0 ?_
      refine fr_getr (a := 2) (pc := 51) dX3_learnWhatFails_51 rfl pf_3_88 s0_2 rfl rf_2_1 ?_
      refine fr_iload_n (pc := 54) dX3_learnWhatFails_54 rfl rfl ?_
      refine fr_iaload (a := 4) (v := gI M4 4 l2) (pc := 55) dX3_learnWhatFails_55 rfl s0_4 hb2 rfl ?_
      refine fr_istore (ls2 := [(2, 138), (0, l1), (0, l2), (0, r5), (0, gI M4 4 l2), z5, z6]) (pc := 56) dX3_learnWhatFails_56 rfl (Nat.le_of_ble_eq_true rfl) rfl ?_
      refine fr_aload_n (pc := 58) dX3_learnWhatFails_58 rfl rfl ?_
      refine fr_getr (a := 138) (pc := 59) dX3_learnWhatFails_59 rfl pf_3_19 s0_138 rfl rf_138_0 ?_
      refine fr_getr (a := 2) (pc := 62) dX3_learnWhatFails_62 rfl pf_3_91 s0_2 rfl rf_2_2 ?_
      refine fr_iload_n (pc := 65) dX3_learnWhatFails_65 rfl rfl ?_
      refine fr_iaload (a := 5) (v := gI M4 5 l2) (pc := 66) dX3_learnWhatFails_66 rfl s0_5 hb2 rfl ?_
      refine fr_istore (ls2 := [(2, 138), (0, l1), (0, l2), (0, r5), (0, gI M4 4 l2), (0, gI M4 5 l2), z6]) (pc := 67) dX3_learnWhatFails_67 rfl (Nat.le_of_ble_eq_true rfl) rfl ?_
      refine fr_iconst (pc := 69) dX3_learnWhatFails_69 (by decide) ?_
      refine fr_istore (ls2 := [(2, 138), (0, l1), (0, l2), (0, r5), (0, gI M4 4 l2), (0, gI M4 5 l2), (0, 0)]) (pc := 70) dX3_learnWhatFails_70 rfl (Nat.le_of_ble_eq_true rfl) rfl ?_
      exact hq sc d hd
    · refine fr_iconst (pc := 22) dX3_isIn_22 (by decide) ?_
      refine fr_iret (pc := 23) dX3_isIn_23 (Or.inr (Or.inl ⟨rfl, Or.inl rfl⟩)) ?_
      refine fr_ifcT (tg := 45) (pc := 31) dX3_learnWhatFails_31 rfl rfl ?_
      refine fr_iconst (pc := 45) dX3_learnWhatFails_45 (by decide) ?_
      refine fr_istore_n (ls2 := [(2, 138), (0, l1), (0, l2), (0, 0), z4, z5, z6]) (pc := 46) dX3_learnWhatFails_46 rfl (Nat.le_of_ble_eq_true rfl) rfl ?_
      refine fr_aload_n (pc := 47) dX3_learnWhatFails_47 rfl rfl ?_
      refine fr_getr (a := 138) (pc := 48) dX3_learnWhatFails_48 rfl pf_3_19 s0_138 rfl rf_138_0 ?_
      refine fr_getr (a := 2) (pc := 51) dX3_learnWhatFails_51 rfl pf_3_88 s0_2 rfl rf_2_1 ?_
      refine fr_iload_n (pc := 54) dX3_learnWhatFails_54 rfl rfl ?_
      refine fr_iaload (a := 4) (v := gI M 4 l2) (pc := 55) dX3_learnWhatFails_55 rfl s0_4 hb2 (gI_ne _ _ _ _ (by decide)) ?_
      refine fr_istore (ls2 := [(2, 138), (0, l1), (0, l2), (0, 0), (0, gI M 4 l2), z5, z6]) (pc := 56) dX3_learnWhatFails_56 rfl (Nat.le_of_ble_eq_true rfl) rfl ?_
      refine fr_aload_n (pc := 58) dX3_learnWhatFails_58 rfl rfl ?_
      refine fr_getr (a := 138) (pc := 59) dX3_learnWhatFails_59 rfl pf_3_19 s0_138 rfl rf_138_0 ?_
      refine fr_getr (a := 2) (pc := 62) dX3_learnWhatFails_62 rfl pf_3_91 s0_2 rfl rf_2_2 ?_
      refine fr_iload_n (pc := 65) dX3_learnWhatFails_65 rfl rfl ?_
      refine fr_iaload (a := 5) (v := gI M 5 l2) (pc := 66) dX3_learnWhatFails_66 rfl s0_5 hb2 (gI_ne _ _ _ _ (by decide)) ?_
      refine fr_istore (ls2 := [(2, 138), (0, l1), (0, l2), (0, 0), (0, gI M 4 l2), (0, gI M 5 l2), z6]) (pc := 67) dX3_learnWhatFails_67 rfl (Nat.le_of_ble_eq_true rfl) rfl ?_
      refine fr_iconst (pc := 69) dX3_learnWhatFails_69 (by decide) ?_
      refine fr_istore (ls2 := [(2, 138), (0, l1), (0, l2), (0, 0), (0, gI M 4 l2), (0, gI M 5 l2), (0, 0)]) (pc := 70) dX3_learnWhatFails_70 rfl (Nat.le_of_ble_eq_true rfl) rfl ?_
      exact hq sc d hd
  · exact fr_vret (pc := 132) dX3_learnWhatFails_132 rfl hq
theorem k3_learnWhatFails_72_r {l1 l2 l3 l4 l5 l6 : Int} {M : pm_M} {K : pm_M → Prop} (hq : (if l6 < l3 then (if l1 < 480 then k0_apply l2 l6 M (fun M3 => k3_reachedByAllFailing M3 (fun r6 M5 => ((0 ≤ l1 ∧ l1 < 480) ∧ ((0 ≤ l2 ∧ l2 < 60) ∧ k3_learnWhatFails_72 (w32 (l1 + 1)) l2 l3 l4 l5 (w32 (l6 + 1)) (upI (upI (upI M5 139 l1 r6) 4 l2 l4) 5 l2 l5) K)))) else k3_learnWhatFails_4 l1 (w32 (l2 + 1)) M K) else k3_learnWhatFails_4 l1 (w32 (l2 + 1)) M K)) : k3_learnWhatFails_72 l1 l2 l3 l4 l5 l6 M K := by
  intro sc d hd
  refine fr_iload (pc := 72) dX3_learnWhatFails_72 rfl rfl ?_
  refine fr_iload_n (pc := 74) dX3_learnWhatFails_74 rfl rfl ?_
  refine fr_icm_ge (tg := 126) (pc := 75) dX3_learnWhatFails_75 rfl hq (fun hc1 hq => ?_) (fun hc1 hq => ?_)
  · refine fr_iload_n (pc := 78) dX3_learnWhatFails_78 rfl rfl ?_
    refine fr_sipush (pc := 79) dX3_learnWhatFails_79 (by decide) ?_
    refine fr_icm_ge (tg := 126) (pc := 82) dX3_learnWhatFails_82 rfl hq (fun hc2 hq => ?_) (fun hc2 hq => ?_)
    · refine fr_aload_n (pc := 85) dX3_learnWhatFails_85 rfl rfl ?_
      refine fr_getr (a := 138) (pc := 86) dX3_learnWhatFails_86 rfl pf_3_19 s0_138 rfl rf_138_0 ?_
      refine fr_iload_n (pc := 89) dX3_learnWhatFails_89 rfl rfl ?_
      refine fr_iload (pc := 90) dX3_learnWhatFails_90 rfl rfl ?_
      refine fr_inVV (a := 2) (as := [(0, l2), (0, l6)]) (rest := []) (ls' := [(2, 2), (0, l2), (0, l6)]) (c1 := 0) (c2 := 0) (pc := 92) dX3_learnWhatFails_92 pl_3_94 rfl ⟨Nat.le_of_ble_eq_true rfl, Nat.le_of_ble_eq_true rfl⟩ rfl rfl rfl s0_2 (Nat.le_of_ble_eq_true rfl) (by omega) rfl rfl (pm_zc _) (hq sc _ (by omega)) (fun M3 hq => ?_)
      refine fr_aload_n (pc := 95) dX3_learnWhatFails_95 rfl rfl ?_
      refine fr_getr (a := 138) (pc := 96) dX3_learnWhatFails_96 rfl pf_3_9 s0_138 rfl rf_138_5 ?_
      refine fr_iload_n (pc := 99) dX3_learnWhatFails_99 rfl rfl ?_
      refine fr_aload_n (pc := 100) dX3_learnWhatFails_100 rfl rfl ?_
      refine fr_inVL (a := 138) (as := []) (rest := [(0, l1), (2, 139)]) (ls' := [(2, 138), (9, 0), (9, 0), (9, 0)]) (c1 := 0) (c2 := 0) (pc := 101) dX3_learnWhatFails_101 pl_3_98 rfl ⟨Nat.le_of_ble_eq_true rfl, Nat.le_of_ble_eq_true rfl⟩ rfl rfl rfl s0_138 (Nat.le_of_ble_eq_true rfl) (by omega) rfl rfl (pm_zc _) (hq sc _ (by omega)) (fun r6 M5 hq => ?_)
      obtain ⟨hb7, hq⟩ := hq
      refine fr_lastore (a := 139) (pc := 104) dX3_learnWhatFails_104 rfl s0_139 hb7 nr_139 ?_
      refine fr_iinc (z := w32 (l1 + 1)) (ls2 := [(2, 138), (0, w32 (l1 + 1)), (0, l2), (0, l3), (0, l4), (0, l5), (0, l6)]) (pc := 105) dX3_learnWhatFails_105 (Nat.le_of_ble_eq_true rfl) rfl rfl rfl ?_
      refine fr_aload_n (pc := 108) dX3_learnWhatFails_108 rfl rfl ?_
      refine fr_getr (a := 138) (pc := 109) dX3_learnWhatFails_109 rfl pf_3_19 s0_138 rfl rf_138_0 ?_
      refine fr_iload_n (pc := 112) dX3_learnWhatFails_112 rfl rfl ?_
      refine fr_iload (pc := 113) dX3_learnWhatFails_113 rfl rfl ?_
      refine fr_iload (pc := 115) dX3_learnWhatFails_115 rfl rfl ?_
      refine fr_inVV (a := 2) (as := [(0, l2), (0, l4), (0, l5)]) (rest := []) (ls' := [(2, 2), (0, l2), (0, l4), (0, l5)]) (c1 := 0) (c2 := 0) (pc := 117) dX3_learnWhatFails_117 pl_3_102 rfl ⟨Nat.le_of_ble_eq_true rfl, Nat.le_of_ble_eq_true rfl⟩ rfl rfl rfl s0_2 (Nat.le_of_ble_eq_true rfl) (by omega) rfl rfl (pm_zc _) ?_ (fun M' h => h)
      refine fr_aload_n (pc := 0) dX0_restore_0 rfl rfl ?_
      refine fr_getr (a := 2) (pc := 1) dX0_restore_1 rfl pf_0_15 s0_2 rfl rf_2_1 ?_
      refine fr_iload_n (pc := 4) dX0_restore_4 rfl rfl ?_
      refine fr_iload_n (pc := 5) dX0_restore_5 rfl rfl ?_
      obtain ⟨hb8, hq⟩ := hq
      refine fr_iastore (a := 4) (pc := 6) dX0_restore_6 rfl s0_4 hb8 nr_4 ?_
      refine fr_aload_n (pc := 7) dX0_restore_7 rfl rfl ?_
      refine fr_getr (a := 2) (pc := 8) dX0_restore_8 rfl pf_0_18 s0_2 rfl rf_2_2 ?_
      refine fr_iload_n (pc := 11) dX0_restore_11 rfl rfl ?_
      refine fr_iload_n (pc := 12) dX0_restore_12 rfl rfl ?_
      refine fr_iastore (a := 5) (pc := 13) dX0_restore_13 rfl s0_5 hb8 nr_5 ?_
      refine fr_vret (pc := 14) dX0_restore_14 rfl ?_
      refine fr_iinc (z := w32 (l6 + 1)) (ls2 := [(2, 138), (0, w32 (l1 + 1)), (0, l2), (0, l3), (0, l4), (0, l5), (0, w32 (l6 + 1))]) (pc := 120) dX3_learnWhatFails_120 (Nat.le_of_ble_eq_true rfl) rfl rfl rfl ?_
      refine fr_goto (tg := 72) (pc := 123) dX3_learnWhatFails_123 rfl ?_
      exact hq sc d hd
    · refine fr_iinc (z := w32 (l2 + 1)) (ls2 := [(2, 138), (0, l1), (0, w32 (l2 + 1)), (0, l3), (0, l4), (0, l5), (0, l6)]) (pc := 126) dX3_learnWhatFails_126 (Nat.le_of_ble_eq_true rfl) rfl rfl rfl ?_
      refine fr_goto (tg := 4) (pc := 129) dX3_learnWhatFails_129 rfl ?_
      exact hq sc d hd (0, l3) pm_t0 (0, l4) pm_t0 (0, l5) pm_t0 (0, l6) pm_t0
  · refine fr_iinc (z := w32 (l2 + 1)) (ls2 := [(2, 138), (0, l1), (0, w32 (l2 + 1)), (0, l3), (0, l4), (0, l5), (0, l6)]) (pc := 126) dX3_learnWhatFails_126 (Nat.le_of_ble_eq_true rfl) rfl rfl rfl ?_
    refine fr_goto (tg := 4) (pc := 129) dX3_learnWhatFails_129 rfl ?_
    exact hq sc d hd (0, l3) pm_t0 (0, l4) pm_t0 (0, l5) pm_t0 (0, l6) pm_t0
theorem k3_reachedByAllFailing_r {M : pm_M} {K : Int → pm_M → Prop} (hq : k3_reachedByAllFailing_6 (-1) 0 M K) : k3_reachedByAllFailing M K := by
  intro sc d hd
  refine fr_ldc2 (pc := 0) dX3_reachedByAllFailing_0 rfl ?_
  refine fr_lstore_n (pc := 3) dX3_reachedByAllFailing_3 rfl (Nat.le_of_ble_eq_true rfl) (show pm_st2 _ _ _ = [(2, 138), (1, (-1)), (9, 0), (9, 0)] from rfl) ?_
  refine fr_iconst (pc := 4) dX3_reachedByAllFailing_4 (by decide) ?_
  refine fr_istore_n (ls2 := [(2, 138), (1, (-1)), (9, 0), (0, 0)]) (pc := 5) dX3_reachedByAllFailing_5 rfl (Nat.le_of_ble_eq_true rfl) rfl ?_
  exact hq sc d hd
theorem k3_reachedByAllFailing_6_r {l1 l3 : Int} {M : pm_M} {K : Int → pm_M → Prop} (hq : (if l3 < gI M 18 1 then (if l3 < 0 then k3_reachedByAllFailing_6 l1 (w32 (l3 + 1)) M K else ((0 ≤ l3 ∧ l3 < 16) ∧ (if gI M (20 + l3.toNat) 4 = 1 then k3_reachedByAllFailing_6 l1 (w32 (l3 + 1)) M K else k1_passes l3 M (fun r6 M5 => (if r6 = 0 then k3_reachedByAllFailing_6 (pm_land l1 (gI M5 73 9)) (w32 (l3 + 1)) M5 K else k3_reachedByAllFailing_6 l1 (w32 (l3 + 1)) M5 K))))) else K l1 M)) : k3_reachedByAllFailing_6 l1 l3 M K := by
  intro sc d hd
  refine fr_iload_n (pc := 6) dX3_reachedByAllFailing_6 rfl rfl ?_
  refine fr_aload_n (pc := 7) dX3_reachedByAllFailing_7 rfl rfl ?_
  refine fr_getr (a := 138) (pc := 8) dX3_reachedByAllFailing_8 rfl pf_3_23 s0_138 rfl rf_138_1 ?_
  refine fr_getf (a := 18) (i := 1) (v := gI M 18 1) (t := 0) (pc := 11) dX3_reachedByAllFailing_11 rfl pf_3_108 rfl s0_18 rfl rfl ?_
  refine fr_icm_ge (tg := 55) (pc := 14) dX3_reachedByAllFailing_14 rfl hq (fun hc1 hq => ?_) (fun hc1 hq => ?_)
  · refine fr_aload_n (pc := 17) dX3_reachedByAllFailing_17 rfl rfl ?_
    refine fr_getr (a := 138) (pc := 18) dX3_reachedByAllFailing_18 rfl pf_3_23 s0_138 rfl rf_138_1 ?_
    refine fr_iload_n (pc := 21) dX3_reachedByAllFailing_21 rfl rfl ?_
    refine fr_inVI (a := 18) (as := [(0, l3)]) (rest := []) (ls' := [(2, 18), (0, l3)]) (c1 := 0) (c2 := 0) (pc := 22) dX3_reachedByAllFailing_22 pl_3_111 rfl ⟨Nat.le_of_ble_eq_true rfl, Nat.le_of_ble_eq_true rfl⟩ rfl rfl rfl s0_18 (Nat.le_of_ble_eq_true rfl) (by omega) rfl rfl (pm_zc _) ?_ (fun y M' h => h)
    refine fr_aload_n (pc := 0) dX8_isShown_0 rfl rfl ?_
    refine fr_iload_n (pc := 1) dX8_isShown_1 rfl rfl ?_
    refine fr_inVI (a := 18) (as := [(0, l3)]) (rest := []) (ls' := [(2, 18), (0, l3)]) (c1 := 0) (c2 := 0) (pc := 2) dX8_isShown_2 pl_8_23 rfl ⟨Nat.le_of_ble_eq_true rfl, Nat.le_of_ble_eq_true rfl⟩ rfl rfl rfl s0_18 (Nat.le_of_ble_eq_true rfl) (by omega) rfl rfl (pm_zc _) ?_ (fun y M' h => h)
    refine fr_iload_n (pc := 0) dX8_hasTest_0 rfl rfl ?_
    refine fr_ifc_lt (tg := 16) (pc := 1) dX8_hasTest_1 rfl hq (fun hc2 hq => ?_) (fun hc2 hq => ?_)
    · refine fr_iconst (pc := 16) dX8_hasTest_16 (by decide) ?_
      refine fr_iret (pc := 17) dX8_hasTest_17 (Or.inr (Or.inl ⟨rfl, Or.inl rfl⟩)) ?_
      refine fr_ifcT (tg := 20) (pc := 5) dX8_isShown_5 rfl rfl ?_
      refine fr_iconst (pc := 20) dX8_isShown_20 (by decide) ?_
      refine fr_iret (pc := 21) dX8_isShown_21 (Or.inr (Or.inl ⟨rfl, Or.inl rfl⟩)) ?_
      refine fr_ifcT (tg := 49) (pc := 25) dX3_reachedByAllFailing_25 rfl rfl ?_
      refine fr_iinc (z := w32 (l3 + 1)) (ls2 := [(2, 138), (1, l1), (9, 0), (0, w32 (l3 + 1))]) (pc := 49) dX3_reachedByAllFailing_49 (Nat.le_of_ble_eq_true rfl) rfl rfl rfl ?_
      refine fr_goto (tg := 6) (pc := 52) dX3_reachedByAllFailing_52 rfl ?_
      exact hq sc d hd
    · refine fr_iload_n (pc := 4) dX8_hasTest_4 rfl rfl ?_
      refine fr_aload_n (pc := 5) dX8_hasTest_5 rfl rfl ?_
      refine fr_getf (a := 18) (i := 1) (v := gI M 18 1) (t := 0) (pc := 6) dX8_hasTest_6 rfl pf_8_16 rfl s0_18 rfl rfl ?_
      refine fr_icmF (tg := 16) (pc := 9) dX8_hasTest_9 (decide_eq_false (by omega)) rfl ?_
      refine fr_iconst (pc := 12) dX8_hasTest_12 (by decide) ?_
      refine fr_goto (tg := 17) (pc := 13) dX8_hasTest_13 rfl ?_
      refine fr_iret (pc := 17) dX8_hasTest_17 (Or.inr (Or.inl ⟨rfl, Or.inr rfl⟩)) ?_
      refine fr_ifcF (tg := 20) (pc := 5) dX8_isShown_5 rfl rfl ?_
      refine fr_aload_n (pc := 8) dX8_isShown_8 rfl rfl ?_
      refine fr_iload_n (pc := 9) dX8_isShown_9 rfl rfl ?_
      refine fr_inVI (a := 18) (as := [(0, l3)]) (rest := []) (ls' := [(2, 18), (0, l3)]) (c1 := 0) (c2 := 0) (pc := 10) dX8_isShown_10 pl_8_27 rfl ⟨Nat.le_of_ble_eq_true rfl, Nat.le_of_ble_eq_true rfl⟩ rfl rfl rfl s0_18 (Nat.le_of_ble_eq_true rfl) (by omega) rfl rfl (pm_zc _) ?_ (fun y M' h => h)
      refine fr_aload_n (pc := 0) dX8_isHeld_0 rfl rfl ?_
      refine fr_getr (a := 18) (pc := 1) dX8_isHeld_1 rfl pf_8_13 s0_18 rfl rf_18_0 ?_
      refine fr_iload_n (pc := 4) dX8_isHeld_4 rfl rfl ?_
      obtain ⟨hb3, hq⟩ := hq
      refine fr_aaload (a := 19) (pc := 5) dX8_isHeld_5 rfl s0_19 hb3 rws_19 ?_
      refine fr_iconst (pc := 6) dX8_isHeld_6 (by decide) ?_
      refine fr_iaload (a := (19 + 1 + l3.toNat)) (v := gI M (20 + l3.toNat) 4) (pc := 7) dX8_isHeld_7 rfl (pm_rowS rwS_19 hb3) (by decide) rfl ?_
      refine fr_iconst (pc := 8) dX8_isHeld_8 (by decide) ?_
      refine fr_icm_ne (tg := 16) (pc := 9) dX8_isHeld_9 rfl hq (fun hc4 hq => ?_) (fun hc4 hq => ?_)
      · refine fr_iconst (pc := 12) dX8_isHeld_12 (by decide) ?_
        refine fr_goto (tg := 17) (pc := 13) dX8_isHeld_13 rfl ?_
        refine fr_iret (pc := 17) dX8_isHeld_17 (Or.inr (Or.inl ⟨rfl, Or.inr rfl⟩)) ?_
        refine fr_ifcT (tg := 20) (pc := 13) dX8_isShown_13 rfl rfl ?_
        refine fr_iconst (pc := 20) dX8_isShown_20 (by decide) ?_
        refine fr_iret (pc := 21) dX8_isShown_21 (Or.inr (Or.inl ⟨rfl, Or.inl rfl⟩)) ?_
        refine fr_ifcT (tg := 49) (pc := 25) dX3_reachedByAllFailing_25 rfl rfl ?_
        refine fr_iinc (z := w32 (l3 + 1)) (ls2 := [(2, 138), (1, l1), (9, 0), (0, w32 (l3 + 1))]) (pc := 49) dX3_reachedByAllFailing_49 (Nat.le_of_ble_eq_true rfl) rfl rfl rfl ?_
        refine fr_goto (tg := 6) (pc := 52) dX3_reachedByAllFailing_52 rfl ?_
        exact hq sc d hd
      · refine fr_iconst (pc := 16) dX8_isHeld_16 (by decide) ?_
        refine fr_iret (pc := 17) dX8_isHeld_17 (Or.inr (Or.inl ⟨rfl, Or.inl rfl⟩)) ?_
        refine fr_ifcF (tg := 20) (pc := 13) dX8_isShown_13 rfl rfl ?_
        refine fr_iconst (pc := 16) dX8_isShown_16 (by decide) ?_
        refine fr_goto (tg := 21) (pc := 17) dX8_isShown_17 rfl ?_
        refine fr_iret (pc := 21) dX8_isShown_21 (Or.inr (Or.inl ⟨rfl, Or.inr rfl⟩)) ?_
        refine fr_ifcF (tg := 49) (pc := 25) dX3_reachedByAllFailing_25 rfl rfl ?_
        refine fr_aload_n (pc := 28) dX3_reachedByAllFailing_28 rfl rfl ?_
        refine fr_getr (a := 138) (pc := 29) dX3_reachedByAllFailing_29 rfl pf_3_27 s0_138 rfl rf_138_2 ?_
        refine fr_iload_n (pc := 32) dX3_reachedByAllFailing_32 rfl rfl ?_
        refine fr_inVI (a := 73) (as := [(0, l3)]) (rest := []) (ls' := [(2, 73), (0, l3), (9, 0), (9, 0)]) (c1 := 0) (c2 := 0) (pc := 33) dX3_reachedByAllFailing_33 pl_3_115 rfl ⟨Nat.le_of_ble_eq_true rfl, Nat.le_of_ble_eq_true rfl⟩ rfl rfl rfl s0_73 (Nat.le_of_ble_eq_true rfl) (by omega) rfl rfl (pm_zc _) (hq sc _ (by omega)) (fun r6 M5 hq => ?_)
        refine fr_ifc_ne (tg := 49) (pc := 36) dX3_reachedByAllFailing_36 rfl hq (fun hc7 hq => ?_) (fun hc7 hq => ?_)
        · refine fr_lload_n (pc := 39) dX3_reachedByAllFailing_39 rfl rfl ?_
          refine fr_aload_n (pc := 40) dX3_reachedByAllFailing_40 rfl rfl ?_
          refine fr_getr (a := 138) (pc := 41) dX3_reachedByAllFailing_41 rfl pf_3_27 s0_138 rfl rf_138_2 ?_
          refine fr_getf (a := 73) (i := 9) (v := gI M5 73 9) (t := 1) (pc := 44) dX3_reachedByAllFailing_44 rfl pf_3_120 rfl s0_73 rfl rfl ?_
          refine fr_land (pc := 47) dX3_reachedByAllFailing_47 ?_
          refine fr_lstore_n (pc := 48) dX3_reachedByAllFailing_48 rfl (Nat.le_of_ble_eq_true rfl) (show pm_st2 _ _ _ = [(2, 138), (1, pm_land l1 (gI M5 73 9)), (9, 0), (0, l3)] from rfl) ?_
          refine fr_iinc (z := w32 (l3 + 1)) (ls2 := [(2, 138), (1, pm_land l1 (gI M5 73 9)), (9, 0), (0, w32 (l3 + 1))]) (pc := 49) dX3_reachedByAllFailing_49 (Nat.le_of_ble_eq_true rfl) rfl rfl rfl ?_
          refine fr_goto (tg := 6) (pc := 52) dX3_reachedByAllFailing_52 rfl ?_
          exact hq sc d hd
        · refine fr_iinc (z := w32 (l3 + 1)) (ls2 := [(2, 138), (1, l1), (9, 0), (0, w32 (l3 + 1))]) (pc := 49) dX3_reachedByAllFailing_49 (Nat.le_of_ble_eq_true rfl) rfl rfl rfl ?_
          refine fr_goto (tg := 6) (pc := 52) dX3_reachedByAllFailing_52 rfl ?_
          exact hq sc d hd
  · refine fr_lload_n (pc := 55) dX3_reachedByAllFailing_55 rfl rfl ?_
    exact fr_lret (pc := 56) dX3_reachedByAllFailing_56 rfl hq
theorem k3_tryFirst_r {a1 : Int} {M : pm_M} {K : pm_M → Prop} (hq : ((0 ≤ a1 ∧ a1 < 60) ∧ k0_changeCount a1 M (fun r3 M2 => k3_tryFirst_33 a1 (gI M 4 a1) (gI M 5 a1) r3 0 M2 K))) : k3_tryFirst a1 M K := by
  intro sc d hd
  refine fr_aload_n (pc := 0) dX3_tryFirst_0 rfl rfl ?_
  refine fr_getr (a := 138) (pc := 1) dX3_tryFirst_1 rfl pf_3_19 s0_138 rfl rf_138_0 ?_
  refine fr_getr (a := 2) (pc := 4) dX3_tryFirst_4 rfl pf_3_88 s0_2 rfl rf_2_1 ?_
  refine fr_iload_n (pc := 7) dX3_tryFirst_7 rfl rfl ?_
  obtain ⟨hb1, hq⟩ := hq
  refine fr_iaload (a := 4) (v := gI M 4 a1) (pc := 8) dX3_tryFirst_8 rfl s0_4 hb1 rfl ?_
  refine fr_istore_n (ls2 := [(2, 138), (0, a1), (0, gI M 4 a1), (9, 0), (9, 0), (9, 0)]) (pc := 9) dX3_tryFirst_9 rfl (Nat.le_of_ble_eq_true rfl) rfl ?_
  refine fr_aload_n (pc := 10) dX3_tryFirst_10 rfl rfl ?_
  refine fr_getr (a := 138) (pc := 11) dX3_tryFirst_11 rfl pf_3_19 s0_138 rfl rf_138_0 ?_
  refine fr_getr (a := 2) (pc := 14) dX3_tryFirst_14 rfl pf_3_91 s0_2 rfl rf_2_2 ?_
  refine fr_iload_n (pc := 17) dX3_tryFirst_17 rfl rfl ?_
  refine fr_iaload (a := 5) (v := gI M 5 a1) (pc := 18) dX3_tryFirst_18 rfl s0_5 hb1 rfl ?_
  refine fr_istore_n (ls2 := [(2, 138), (0, a1), (0, gI M 4 a1), (0, gI M 5 a1), (9, 0), (9, 0)]) (pc := 19) dX3_tryFirst_19 rfl (Nat.le_of_ble_eq_true rfl) rfl ?_
  refine fr_aload_n (pc := 20) dX3_tryFirst_20 rfl rfl ?_
  refine fr_getr (a := 138) (pc := 21) dX3_tryFirst_21 rfl pf_3_19 s0_138 rfl rf_138_0 ?_
  refine fr_iload_n (pc := 24) dX3_tryFirst_24 rfl rfl ?_
  refine fr_inVI (a := 2) (as := [(0, a1)]) (rest := []) (ls' := [(2, 2), (0, a1)]) (c1 := 0) (c2 := 0) (pc := 25) dX3_tryFirst_25 pl_3_84 rfl ⟨Nat.le_of_ble_eq_true rfl, Nat.le_of_ble_eq_true rfl⟩ rfl rfl rfl s0_2 (Nat.le_of_ble_eq_true rfl) (by omega) rfl rfl (pm_zc _) (hq sc _ (by omega)) (fun r3 M2 hq => ?_)
  refine fr_istore (ls2 := [(2, 138), (0, a1), (0, gI M 4 a1), (0, gI M 5 a1), (0, r3), (9, 0)]) (pc := 28) dX3_tryFirst_28 rfl (Nat.le_of_ble_eq_true rfl) rfl ?_
  refine fr_iconst (pc := 30) dX3_tryFirst_30 (by decide) ?_
  refine fr_istore (ls2 := [(2, 138), (0, a1), (0, gI M 4 a1), (0, gI M 5 a1), (0, r3), (0, 0)]) (pc := 31) dX3_tryFirst_31 rfl (Nat.le_of_ble_eq_true rfl) rfl ?_
  exact hq sc d hd
theorem k3_tryFirst_33_r {l1 l2 l3 l4 l5 : Int} {M : pm_M} {K : pm_M → Prop} (hq : (if l5 < l4 then (if gI M 138 13 = 0 then k0_apply l1 l5 M (fun M3 => ((0 ≤ l1 ∧ l1 < 60) ∧ ((0 ≤ w32 ((gI M3 140 l1) + l5) ∧ w32 ((gI M3 140 l1) + l5) < 480) ∧ k3_tryOthers l1 l5 (gI M3 139 (w32 ((gI M3 140 l1) + l5))) M3 (fun M7 => k3_tryFirst_33 l1 l2 l3 l4 (w32 (l5 + 1)) (upI (upI M7 4 l1 l2) 5 l1 l3) K)))) else K M) else K M)) : k3_tryFirst_33 l1 l2 l3 l4 l5 M K := by
  intro sc d hd
  refine fr_iload (pc := 33) dX3_tryFirst_33 rfl rfl ?_
  refine fr_iload (pc := 35) dX3_tryFirst_35 rfl rfl ?_
  refine fr_icm_ge (tg := 94) (pc := 37) dX3_tryFirst_37 rfl hq (fun hc1 hq => ?_) (fun hc1 hq => ?_)
  · refine fr_aload_n (pc := 40) dX3_tryFirst_40 rfl rfl ?_
    refine fr_getf (a := 138) (i := 13) (v := gI M 138 13) (t := 0) (pc := 41) dX3_tryFirst_41 rfl pf_3_43 rfl s0_138 rfl rfl ?_
    refine fr_ifc_ne (tg := 94) (pc := 44) dX3_tryFirst_44 rfl hq (fun hc2 hq => ?_) (fun hc2 hq => ?_)
    · refine fr_aload_n (pc := 47) dX3_tryFirst_47 rfl rfl ?_
      refine fr_getr (a := 138) (pc := 48) dX3_tryFirst_48 rfl pf_3_19 s0_138 rfl rf_138_0 ?_
      refine fr_iload_n (pc := 51) dX3_tryFirst_51 rfl rfl ?_
      refine fr_iload (pc := 52) dX3_tryFirst_52 rfl rfl ?_
      refine fr_inVV (a := 2) (as := [(0, l1), (0, l5)]) (rest := []) (ls' := [(2, 2), (0, l1), (0, l5)]) (c1 := 0) (c2 := 0) (pc := 54) dX3_tryFirst_54 pl_3_94 rfl ⟨Nat.le_of_ble_eq_true rfl, Nat.le_of_ble_eq_true rfl⟩ rfl rfl rfl s0_2 (Nat.le_of_ble_eq_true rfl) (by omega) rfl rfl (pm_zc _) (hq sc _ (by omega)) (fun M3 hq => ?_)
      refine fr_aload_n (pc := 57) dX3_tryFirst_57 rfl rfl ?_
      refine fr_iload_n (pc := 58) dX3_tryFirst_58 rfl rfl ?_
      refine fr_iload (pc := 59) dX3_tryFirst_59 rfl rfl ?_
      refine fr_aload_n (pc := 61) dX3_tryFirst_61 rfl rfl ?_
      refine fr_getr (a := 138) (pc := 62) dX3_tryFirst_62 rfl pf_3_9 s0_138 rfl rf_138_5 ?_
      refine fr_aload_n (pc := 65) dX3_tryFirst_65 rfl rfl ?_
      refine fr_getr (a := 138) (pc := 66) dX3_tryFirst_66 rfl pf_3_15 s0_138 rfl rf_138_6 ?_
      refine fr_iload_n (pc := 69) dX3_tryFirst_69 rfl rfl ?_
      obtain ⟨hb5, hq⟩ := hq
      refine fr_iaload (a := 140) (v := gI M3 140 l1) (pc := 70) dX3_tryFirst_70 rfl s0_140 hb5 rfl ?_
      refine fr_iload (pc := 71) dX3_tryFirst_71 rfl rfl ?_
      refine fr_iadd (z := w32 ((gI M3 140 l1) + l5)) (pc := 73) dX3_tryFirst_73 rfl ?_
      obtain ⟨hb6, hq⟩ := hq
      refine fr_laload (a := 139) (v := gI M3 139 (w32 ((gI M3 140 l1) + l5))) (pc := 74) dX3_tryFirst_74 rfl s0_139 hb6 rfl ?_
      refine fr_inVV (a := 138) (as := [(0, l1), (0, l5), (1, gI M3 139 (w32 ((gI M3 140 l1) + l5)))]) (rest := []) (ls' := [(2, 138), (0, l1), (0, l5), (1, gI M3 139 (w32 ((gI M3 140 l1) + l5))), (9, 0), (9, 0), (9, 0), (9, 0), (9, 0), (9, 0)]) (c1 := 0) (c2 := 0) (pc := 75) dX3_tryFirst_75 pl_3_123 rfl ⟨Nat.le_of_ble_eq_true rfl, Nat.le_of_ble_eq_true rfl⟩ rfl rfl rfl s0_138 (Nat.le_of_ble_eq_true rfl) (by omega) rfl rfl (pm_zc _) (hq sc _ (by omega)) (fun M7 hq => ?_)
      refine fr_aload_n (pc := 78) dX3_tryFirst_78 rfl rfl ?_
      refine fr_getr (a := 138) (pc := 79) dX3_tryFirst_79 rfl pf_3_19 s0_138 rfl rf_138_0 ?_
      refine fr_iload_n (pc := 82) dX3_tryFirst_82 rfl rfl ?_
      refine fr_iload_n (pc := 83) dX3_tryFirst_83 rfl rfl ?_
      refine fr_iload_n (pc := 84) dX3_tryFirst_84 rfl rfl ?_
      refine fr_inVV (a := 2) (as := [(0, l1), (0, l2), (0, l3)]) (rest := []) (ls' := [(2, 2), (0, l1), (0, l2), (0, l3)]) (c1 := 0) (c2 := 0) (pc := 85) dX3_tryFirst_85 pl_3_102 rfl ⟨Nat.le_of_ble_eq_true rfl, Nat.le_of_ble_eq_true rfl⟩ rfl rfl rfl s0_2 (Nat.le_of_ble_eq_true rfl) (by omega) rfl rfl (pm_zc _) ?_ (fun M' h => h)
      refine fr_aload_n (pc := 0) dX0_restore_0 rfl rfl ?_
      refine fr_getr (a := 2) (pc := 1) dX0_restore_1 rfl pf_0_15 s0_2 rfl rf_2_1 ?_
      refine fr_iload_n (pc := 4) dX0_restore_4 rfl rfl ?_
      refine fr_iload_n (pc := 5) dX0_restore_5 rfl rfl ?_
      refine fr_iastore (a := 4) (pc := 6) dX0_restore_6 rfl s0_4 hb5 nr_4 ?_
      refine fr_aload_n (pc := 7) dX0_restore_7 rfl rfl ?_
      refine fr_getr (a := 2) (pc := 8) dX0_restore_8 rfl pf_0_18 s0_2 rfl rf_2_2 ?_
      refine fr_iload_n (pc := 11) dX0_restore_11 rfl rfl ?_
      refine fr_iload_n (pc := 12) dX0_restore_12 rfl rfl ?_
      refine fr_iastore (a := 5) (pc := 13) dX0_restore_13 rfl s0_5 hb5 nr_5 ?_
      refine fr_vret (pc := 14) dX0_restore_14 rfl ?_
      refine fr_iinc (z := w32 (l5 + 1)) (ls2 := [(2, 138), (0, l1), (0, l2), (0, l3), (0, l4), (0, w32 (l5 + 1))]) (pc := 88) dX3_tryFirst_88 (Nat.le_of_ble_eq_true rfl) rfl rfl rfl ?_
      refine fr_goto (tg := 33) (pc := 91) dX3_tryFirst_91 rfl ?_
      exact hq sc d hd
    · exact fr_vret (pc := 94) dX3_tryFirst_94 rfl hq
  · exact fr_vret (pc := 94) dX3_tryFirst_94 rfl hq
theorem k3_tryOthers_r {a1 a2 a3 : Int} {M : pm_M} {K : pm_M → Prop} (hq : k3_tryOthers_5 a1 a2 a3 (w32 (a1 + 1)) M K) : k3_tryOthers a1 a2 a3 M K := by
  intro sc d hd
  refine fr_iload_n (pc := 0) dX3_tryOthers_0 rfl rfl ?_
  refine fr_iconst (pc := 1) dX3_tryOthers_1 (by decide) ?_
  refine fr_iadd (z := w32 (a1 + 1)) (pc := 2) dX3_tryOthers_2 rfl ?_
  refine fr_istore (ls2 := [(2, 138), (0, a1), (0, a2), (1, a3), (9, 0), (0, w32 (a1 + 1)), (9, 0), (9, 0), (9, 0), (9, 0)]) (pc := 3) dX3_tryOthers_3 rfl (Nat.le_of_ble_eq_true rfl) rfl ?_
  exact hq sc d hd (9, 0) pm_t9 (9, 0) pm_t9 (9, 0) pm_t9 (9, 0) pm_t9
theorem k3_tryOthers_5_r {l1 l2 l3 l5 : Int} {M : pm_M} {K : pm_M → Prop} (hq : (if l5 < gI M 2 15 then (if gI M 138 13 = 0 then ((0 ≤ l5 ∧ l5 < 60) ∧ (if pm_lcmp (pm_land (pm_lshr (pm_land (gI M 138 7) l3) (gI M 7 l5)) 1) 1 = 0 then k0_changeCount l5 M (fun r6 M5 => k3_tryOthers_80 l1 l2 l3 l5 (gI M 4 l5) (gI M 5 l5) r6 0 M5 K) else k3_tryOthers_5 l1 l2 l3 (w32 (l5 + 1)) M K)) else K M) else K M)) : k3_tryOthers_5 l1 l2 l3 l5 M K := by
  intro sc d hd z6 hz6 z7 hz7 z8 hz8 z9 hz9
  refine fr_iload (pc := 5) dX3_tryOthers_5 rfl rfl ?_
  refine fr_aload_n (pc := 7) dX3_tryOthers_7 rfl rfl ?_
  refine fr_getr (a := 138) (pc := 8) dX3_tryOthers_8 rfl pf_3_19 s0_138 rfl rf_138_0 ?_
  refine fr_getf (a := 2) (i := 15) (v := gI M 2 15) (t := 0) (pc := 11) dX3_tryOthers_11 rfl pf_3_70 rfl s0_2 rfl rfl ?_
  refine fr_icm_ge (tg := 185) (pc := 14) dX3_tryOthers_14 rfl hq (fun hc1 hq => ?_) (fun hc1 hq => ?_)
  · refine fr_aload_n (pc := 17) dX3_tryOthers_17 rfl rfl ?_
    refine fr_getf (a := 138) (i := 13) (v := gI M 138 13) (t := 0) (pc := 18) dX3_tryOthers_18 rfl pf_3_43 rfl s0_138 rfl rfl ?_
    refine fr_ifc_ne (tg := 185) (pc := 21) dX3_tryOthers_21 rfl hq (fun hc2 hq => ?_) (fun hc2 hq => ?_)
    · refine fr_aload_n (pc := 24) dX3_tryOthers_24 rfl rfl ?_
      refine fr_aload_n (pc := 25) dX3_tryOthers_25 rfl rfl ?_
      refine fr_getf (a := 138) (i := 7) (v := gI M 138 7) (t := 1) (pc := 26) dX3_tryOthers_26 rfl pf_3_52 rfl s0_138 rfl rfl ?_
      refine fr_lload_n (pc := 29) dX3_tryOthers_29 rfl rfl ?_
      refine fr_land (pc := 30) dX3_tryOthers_30 ?_
      refine fr_iload (pc := 31) dX3_tryOthers_31 rfl rfl ?_
      refine fr_inVI (a := 138) (as := [(1, pm_land (gI M 138 7) l3), (0, l5)]) (rest := []) (ls' := [(2, 138), (1, pm_land (gI M 138 7) l3), (9, 0), (0, l5)]) (c1 := 0) (c2 := 0) (pc := 33) dX3_tryOthers_33 pl_3_73 rfl ⟨Nat.le_of_ble_eq_true rfl, Nat.le_of_ble_eq_true rfl⟩ rfl rfl rfl s0_138 (Nat.le_of_ble_eq_true rfl) (by omega) rfl rfl (pm_zc _) ?_ (fun y M' h => h)
      refine fr_lload_n (pc := 0) dX3_isIn_0 rfl rfl ?_
      refine fr_aload_n (pc := 1) dX3_isIn_1 rfl rfl ?_
      refine fr_getr (a := 138) (pc := 2) dX3_isIn_2 rfl pf_3_19 s0_138 rfl rf_138_0 ?_
      refine fr_getr (a := 2) (pc := 5) dX3_isIn_5 rfl pf_3_81 s0_2 rfl rf_2_4 ?_
      refine fr_iload_n (pc := 8) dX3_isIn_8 rfl rfl ?_
      obtain ⟨hb3, hq⟩ := hq
      refine fr_iaload (a := 7) (v := gI M 7 l5) (pc := 9) dX3_isIn_9 rfl s0_7 hb3 rfl ?_
      refine fr_lshr (pc := 10) dX3_isIn_10 ?_
      refine fr_lconst (pc := 11) dX3_isIn_11 rfl ?_
      refine fr_land (pc := 12) dX3_isIn_12 ?_
      refine fr_lconst (pc := 13) dX3_isIn_13 rfl ?_
      refine fr_lcmp (pc := 14) dX3_isIn_14 ?_
      refine fr_ifc_ne (tg := 22) (pc := 15) dX3_isIn_15 rfl hq (fun hc4 hq => ?_) (fun hc4 hq => ?_)
      · refine fr_iconst (pc := 18) dX3_isIn_18 (by decide) ?_
        refine fr_goto (tg := 23) (pc := 19) dX3_isIn_19 rfl ?_
        refine fr_iret (pc := 23) dX3_isIn_23 (Or.inr (Or.inl ⟨rfl, Or.inr rfl⟩)) ?_
        refine fr_ifcT (tg := 42) (pc := 36) dX3_tryOthers_36 rfl rfl ?_
        refine fr_aload_n (pc := 42) dX3_tryOthers_42 rfl rfl ?_
        refine fr_getr (a := 138) (pc := 43) dX3_tryOthers_43 rfl pf_3_19 s0_138 rfl rf_138_0 ?_
        refine fr_getr (a := 2) (pc := 46) dX3_tryOthers_46 rfl pf_3_88 s0_2 rfl rf_2_1 ?_
        refine fr_iload (pc := 49) dX3_tryOthers_49 rfl rfl ?_
        refine fr_iaload (a := 4) (v := gI M 4 l5) (pc := 51) dX3_tryOthers_51 rfl s0_4 hb3 rfl ?_
        refine fr_istore (ls2 := [(2, 138), (0, l1), (0, l2), (1, l3), (9, 0), (0, l5), (0, gI M 4 l5), z7, z8, z9]) (pc := 52) dX3_tryOthers_52 rfl (Nat.le_of_ble_eq_true rfl) rfl ?_
        refine fr_aload_n (pc := 54) dX3_tryOthers_54 rfl rfl ?_
        refine fr_getr (a := 138) (pc := 55) dX3_tryOthers_55 rfl pf_3_19 s0_138 rfl rf_138_0 ?_
        refine fr_getr (a := 2) (pc := 58) dX3_tryOthers_58 rfl pf_3_91 s0_2 rfl rf_2_2 ?_
        refine fr_iload (pc := 61) dX3_tryOthers_61 rfl rfl ?_
        refine fr_iaload (a := 5) (v := gI M 5 l5) (pc := 63) dX3_tryOthers_63 rfl s0_5 hb3 rfl ?_
        refine fr_istore (ls2 := [(2, 138), (0, l1), (0, l2), (1, l3), (9, 0), (0, l5), (0, gI M 4 l5), (0, gI M 5 l5), z8, z9]) (pc := 64) dX3_tryOthers_64 rfl (Nat.le_of_ble_eq_true rfl) rfl ?_
        refine fr_aload_n (pc := 66) dX3_tryOthers_66 rfl rfl ?_
        refine fr_getr (a := 138) (pc := 67) dX3_tryOthers_67 rfl pf_3_19 s0_138 rfl rf_138_0 ?_
        refine fr_iload (pc := 70) dX3_tryOthers_70 rfl rfl ?_
        refine fr_inVI (a := 2) (as := [(0, l5)]) (rest := []) (ls' := [(2, 2), (0, l5)]) (c1 := 0) (c2 := 0) (pc := 72) dX3_tryOthers_72 pl_3_84 rfl ⟨Nat.le_of_ble_eq_true rfl, Nat.le_of_ble_eq_true rfl⟩ rfl rfl rfl s0_2 (Nat.le_of_ble_eq_true rfl) (by omega) rfl rfl (pm_zc _) (hq sc _ (by omega)) (fun r6 M5 hq => ?_)
        refine fr_istore (ls2 := [(2, 138), (0, l1), (0, l2), (1, l3), (9, 0), (0, l5), (0, gI M 4 l5), (0, gI M 5 l5), (0, r6), z9]) (pc := 75) dX3_tryOthers_75 rfl (Nat.le_of_ble_eq_true rfl) rfl ?_
        refine fr_iconst (pc := 77) dX3_tryOthers_77 (by decide) ?_
        refine fr_istore (ls2 := [(2, 138), (0, l1), (0, l2), (1, l3), (9, 0), (0, l5), (0, gI M 4 l5), (0, gI M 5 l5), (0, r6), (0, 0)]) (pc := 78) dX3_tryOthers_78 rfl (Nat.le_of_ble_eq_true rfl) rfl ?_
        exact hq sc d hd
      · refine fr_iconst (pc := 22) dX3_isIn_22 (by decide) ?_
        refine fr_iret (pc := 23) dX3_isIn_23 (Or.inr (Or.inl ⟨rfl, Or.inl rfl⟩)) ?_
        refine fr_ifcF (tg := 42) (pc := 36) dX3_tryOthers_36 rfl rfl ?_
        refine fr_goto (tg := 179) (pc := 39) dX3_tryOthers_39 rfl ?_
        refine fr_iinc (z := w32 (l5 + 1)) (ls2 := [(2, 138), (0, l1), (0, l2), (1, l3), (9, 0), (0, w32 (l5 + 1)), z6, z7, z8, z9]) (pc := 179) dX3_tryOthers_179 (Nat.le_of_ble_eq_true rfl) rfl rfl rfl ?_
        refine fr_goto (tg := 5) (pc := 182) dX3_tryOthers_182 rfl ?_
        exact hq sc d hd z6 hz6 z7 hz7 z8 hz8 z9 hz9
    · exact fr_vret (pc := 185) dX3_tryOthers_185 rfl hq
  · exact fr_vret (pc := 185) dX3_tryOthers_185 rfl hq
theorem k3_tryOthers_80_r {l1 l2 l3 l5 l6 l7 l8 l9 : Int} {M : pm_M} {K : pm_M → Prop} (hq : (if l9 < l8 then (if gI M 138 13 = 0 then ((0 ≤ l5 ∧ l5 < 60) ∧ ((0 ≤ w32 ((gI M 140 l5) + l9) ∧ w32 ((gI M 140 l5) + l9) < 480) ∧ ((0 ≤ l1 ∧ l1 < 60) ∧ (if pm_lcmp (pm_land (pm_lshr (gI M 139 (w32 ((gI M 140 l5) + l9))) (gI M 7 l1)) 1) 1 = 0 then k0_apply l5 l9 M (fun M7 => k1_allShownPass M7 (fun r10 M9 => (if r10 = 0 then k3_tryOthers_80 l1 l2 l3 l5 l6 l7 l8 (w32 (l9 + 1)) (upI (upI M9 4 l5 l6) 5 l5 l7) K else k1_countPassing 1 (upI (upI (upI (upI (upI M9 138 13 1) 138 8 l1) 138 9 l2) 138 10 l5) 138 11 l9) (fun r13 M12 => k3_tryOthers_80 l1 l2 l3 l5 l6 l7 l8 (w32 (l9 + 1)) (upI (upI (upI M12 138 12 r13) 4 l5 l6) 5 l5 l7) K)))) else k3_tryOthers_80 l1 l2 l3 l5 l6 l7 l8 (w32 (l9 + 1)) M K)))) else k3_tryOthers_5 l1 l2 l3 (w32 (l5 + 1)) M K) else k3_tryOthers_5 l1 l2 l3 (w32 (l5 + 1)) M K)) : k3_tryOthers_80 l1 l2 l3 l5 l6 l7 l8 l9 M K := by
  intro sc d hd
  refine fr_iload (pc := 80) dX3_tryOthers_80 rfl rfl ?_
  refine fr_iload (pc := 82) dX3_tryOthers_82 rfl rfl ?_
  refine fr_icm_ge (tg := 179) (pc := 84) dX3_tryOthers_84 rfl hq (fun hc1 hq => ?_) (fun hc1 hq => ?_)
  · refine fr_aload_n (pc := 87) dX3_tryOthers_87 rfl rfl ?_
    refine fr_getf (a := 138) (i := 13) (v := gI M 138 13) (t := 0) (pc := 88) dX3_tryOthers_88 rfl pf_3_43 rfl s0_138 rfl rfl ?_
    refine fr_ifc_ne (tg := 179) (pc := 91) dX3_tryOthers_91 rfl hq (fun hc2 hq => ?_) (fun hc2 hq => ?_)
    · refine fr_aload_n (pc := 94) dX3_tryOthers_94 rfl rfl ?_
      refine fr_aload_n (pc := 95) dX3_tryOthers_95 rfl rfl ?_
      refine fr_getr (a := 138) (pc := 96) dX3_tryOthers_96 rfl pf_3_9 s0_138 rfl rf_138_5 ?_
      refine fr_aload_n (pc := 99) dX3_tryOthers_99 rfl rfl ?_
      refine fr_getr (a := 138) (pc := 100) dX3_tryOthers_100 rfl pf_3_15 s0_138 rfl rf_138_6 ?_
      refine fr_iload (pc := 103) dX3_tryOthers_103 rfl rfl ?_
      obtain ⟨hb3, hq⟩ := hq
      refine fr_iaload (a := 140) (v := gI M 140 l5) (pc := 105) dX3_tryOthers_105 rfl s0_140 hb3 rfl ?_
      refine fr_iload (pc := 106) dX3_tryOthers_106 rfl rfl ?_
      refine fr_iadd (z := w32 ((gI M 140 l5) + l9)) (pc := 108) dX3_tryOthers_108 rfl ?_
      obtain ⟨hb4, hq⟩ := hq
      refine fr_laload (a := 139) (v := gI M 139 (w32 ((gI M 140 l5) + l9))) (pc := 109) dX3_tryOthers_109 rfl s0_139 hb4 rfl ?_
      refine fr_iload_n (pc := 110) dX3_tryOthers_110 rfl rfl ?_
      refine fr_inVI (a := 138) (as := [(1, gI M 139 (w32 ((gI M 140 l5) + l9))), (0, l1)]) (rest := []) (ls' := [(2, 138), (1, gI M 139 (w32 ((gI M 140 l5) + l9))), (9, 0), (0, l1)]) (c1 := 0) (c2 := 0) (pc := 111) dX3_tryOthers_111 pl_3_73 rfl ⟨Nat.le_of_ble_eq_true rfl, Nat.le_of_ble_eq_true rfl⟩ rfl rfl rfl s0_138 (Nat.le_of_ble_eq_true rfl) (by omega) rfl rfl (pm_zc _) ?_ (fun y M' h => h)
      refine fr_lload_n (pc := 0) dX3_isIn_0 rfl rfl ?_
      refine fr_aload_n (pc := 1) dX3_isIn_1 rfl rfl ?_
      refine fr_getr (a := 138) (pc := 2) dX3_isIn_2 rfl pf_3_19 s0_138 rfl rf_138_0 ?_
      refine fr_getr (a := 2) (pc := 5) dX3_isIn_5 rfl pf_3_81 s0_2 rfl rf_2_4 ?_
      refine fr_iload_n (pc := 8) dX3_isIn_8 rfl rfl ?_
      obtain ⟨hb5, hq⟩ := hq
      refine fr_iaload (a := 7) (v := gI M 7 l1) (pc := 9) dX3_isIn_9 rfl s0_7 hb5 rfl ?_
      refine fr_lshr (pc := 10) dX3_isIn_10 ?_
      refine fr_lconst (pc := 11) dX3_isIn_11 rfl ?_
      refine fr_land (pc := 12) dX3_isIn_12 ?_
      refine fr_lconst (pc := 13) dX3_isIn_13 rfl ?_
      refine fr_lcmp (pc := 14) dX3_isIn_14 ?_
      refine fr_ifc_ne (tg := 22) (pc := 15) dX3_isIn_15 rfl hq (fun hc6 hq => ?_) (fun hc6 hq => ?_)
      · refine fr_iconst (pc := 18) dX3_isIn_18 (by decide) ?_
        refine fr_goto (tg := 23) (pc := 19) dX3_isIn_19 rfl ?_
        refine fr_iret (pc := 23) dX3_isIn_23 (Or.inr (Or.inl ⟨rfl, Or.inr rfl⟩)) ?_
        refine fr_ifcF (tg := 173) (pc := 114) dX3_tryOthers_114 rfl rfl ?_
        refine fr_aload_n (pc := 117) dX3_tryOthers_117 rfl rfl ?_
        refine fr_getr (a := 138) (pc := 118) dX3_tryOthers_118 rfl pf_3_19 s0_138 rfl rf_138_0 ?_
        refine fr_iload (pc := 121) dX3_tryOthers_121 rfl rfl ?_
        refine fr_iload (pc := 123) dX3_tryOthers_123 rfl rfl ?_
        refine fr_inVV (a := 2) (as := [(0, l5), (0, l9)]) (rest := []) (ls' := [(2, 2), (0, l5), (0, l9)]) (c1 := 0) (c2 := 0) (pc := 125) dX3_tryOthers_125 pl_3_94 rfl ⟨Nat.le_of_ble_eq_true rfl, Nat.le_of_ble_eq_true rfl⟩ rfl rfl rfl s0_2 (Nat.le_of_ble_eq_true rfl) (by omega) rfl rfl (pm_zc _) (hq sc _ (by omega)) (fun M7 hq => ?_)
        refine fr_aload_n (pc := 128) dX3_tryOthers_128 rfl rfl ?_
        refine fr_getr (a := 138) (pc := 129) dX3_tryOthers_129 rfl pf_3_27 s0_138 rfl rf_138_2 ?_
        refine fr_inVI (a := 73) (as := []) (rest := []) (ls' := [(2, 73), (9, 0), (9, 0)]) (c1 := 0) (c2 := 0) (pc := 132) dX3_tryOthers_132 pl_3_127 rfl ⟨Nat.le_of_ble_eq_true rfl, Nat.le_of_ble_eq_true rfl⟩ rfl rfl rfl s0_73 (Nat.le_of_ble_eq_true rfl) (by omega) rfl rfl (pm_zc _) (hq sc _ (by omega)) (fun r10 M9 hq => ?_)
        refine fr_ifc_eq (tg := 160) (pc := 135) dX3_tryOthers_135 rfl hq (fun hc11 hq => ?_) (fun hc11 hq => ?_)
        · refine fr_aload_n (pc := 160) dX3_tryOthers_160 rfl rfl ?_
          refine fr_getr (a := 138) (pc := 161) dX3_tryOthers_161 rfl pf_3_19 s0_138 rfl rf_138_0 ?_
          refine fr_iload (pc := 164) dX3_tryOthers_164 rfl rfl ?_
          refine fr_iload (pc := 166) dX3_tryOthers_166 rfl rfl ?_
          refine fr_iload (pc := 168) dX3_tryOthers_168 rfl rfl ?_
          refine fr_inVV (a := 2) (as := [(0, l5), (0, l6), (0, l7)]) (rest := []) (ls' := [(2, 2), (0, l5), (0, l6), (0, l7)]) (c1 := 0) (c2 := 0) (pc := 170) dX3_tryOthers_170 pl_3_102 rfl ⟨Nat.le_of_ble_eq_true rfl, Nat.le_of_ble_eq_true rfl⟩ rfl rfl rfl s0_2 (Nat.le_of_ble_eq_true rfl) (by omega) rfl rfl (pm_zc _) ?_ (fun M' h => h)
          refine fr_aload_n (pc := 0) dX0_restore_0 rfl rfl ?_
          refine fr_getr (a := 2) (pc := 1) dX0_restore_1 rfl pf_0_15 s0_2 rfl rf_2_1 ?_
          refine fr_iload_n (pc := 4) dX0_restore_4 rfl rfl ?_
          refine fr_iload_n (pc := 5) dX0_restore_5 rfl rfl ?_
          refine fr_iastore (a := 4) (pc := 6) dX0_restore_6 rfl s0_4 hb3 nr_4 ?_
          refine fr_aload_n (pc := 7) dX0_restore_7 rfl rfl ?_
          refine fr_getr (a := 2) (pc := 8) dX0_restore_8 rfl pf_0_18 s0_2 rfl rf_2_2 ?_
          refine fr_iload_n (pc := 11) dX0_restore_11 rfl rfl ?_
          refine fr_iload_n (pc := 12) dX0_restore_12 rfl rfl ?_
          refine fr_iastore (a := 5) (pc := 13) dX0_restore_13 rfl s0_5 hb3 nr_5 ?_
          refine fr_vret (pc := 14) dX0_restore_14 rfl ?_
          refine fr_iinc (z := w32 (l9 + 1)) (ls2 := [(2, 138), (0, l1), (0, l2), (1, l3), (9, 0), (0, l5), (0, l6), (0, l7), (0, l8), (0, w32 (l9 + 1))]) (pc := 173) dX3_tryOthers_173 (Nat.le_of_ble_eq_true rfl) rfl rfl rfl ?_
          refine fr_goto (tg := 80) (pc := 176) dX3_tryOthers_176 rfl ?_
          exact hq sc d hd
        · refine fr_aload_n (pc := 138) dX3_tryOthers_138 rfl rfl ?_
          refine fr_iload_n (pc := 139) dX3_tryOthers_139 rfl rfl ?_
          refine fr_iload_n (pc := 140) dX3_tryOthers_140 rfl rfl ?_
          refine fr_iload (pc := 141) dX3_tryOthers_141 rfl rfl ?_
          refine fr_iload (pc := 143) dX3_tryOthers_143 rfl rfl ?_
          refine fr_inVV (a := 138) (as := [(0, l1), (0, l2), (0, l5), (0, l9)]) (rest := []) (ls' := [(2, 138), (0, l1), (0, l2), (0, l5), (0, l9)]) (c1 := 0) (c2 := 0) (pc := 145) dX3_tryOthers_145 pl_3_131 rfl ⟨Nat.le_of_ble_eq_true rfl, Nat.le_of_ble_eq_true rfl⟩ rfl rfl rfl s0_138 (Nat.le_of_ble_eq_true rfl) (by omega) rfl rfl (pm_zc _) ?_ (fun M' h => h)
          refine fr_aload_n (pc := 0) dX3_keep_0 rfl rfl ?_
          refine fr_iconst (pc := 1) dX3_keep_1 (by decide) ?_
          refine fr_put (a := 138) (i := 13) (pc := 2) dX3_keep_2 rfl pf_3_43 rfl s0_138 rfl rfl nf_138_13 rfl ?_
          refine fr_aload_n (pc := 5) dX3_keep_5 rfl rfl ?_
          refine fr_iload_n (pc := 6) dX3_keep_6 rfl rfl ?_
          refine fr_put (a := 138) (i := 8) (pc := 7) dX3_keep_7 rfl pf_3_142 rfl s0_138 rfl rfl nf_138_8 rfl ?_
          refine fr_aload_n (pc := 10) dX3_keep_10 rfl rfl ?_
          refine fr_iload_n (pc := 11) dX3_keep_11 rfl rfl ?_
          refine fr_put (a := 138) (i := 9) (pc := 12) dX3_keep_12 rfl pf_3_145 rfl s0_138 rfl rfl nf_138_9 rfl ?_
          refine fr_aload_n (pc := 15) dX3_keep_15 rfl rfl ?_
          refine fr_iload_n (pc := 16) dX3_keep_16 rfl rfl ?_
          refine fr_put (a := 138) (i := 10) (pc := 17) dX3_keep_17 rfl pf_3_148 rfl s0_138 rfl rfl nf_138_10 rfl ?_
          refine fr_aload_n (pc := 20) dX3_keep_20 rfl rfl ?_
          refine fr_iload (pc := 21) dX3_keep_21 rfl rfl ?_
          refine fr_put (a := 138) (i := 11) (pc := 23) dX3_keep_23 rfl pf_3_151 rfl s0_138 rfl rfl nf_138_11 rfl ?_
          refine fr_vret (pc := 26) dX3_keep_26 rfl ?_
          refine fr_aload_n (pc := 148) dX3_tryOthers_148 rfl rfl ?_
          refine fr_aload_n (pc := 149) dX3_tryOthers_149 rfl rfl ?_
          refine fr_getr (a := 138) (pc := 150) dX3_tryOthers_150 rfl pf_3_27 s0_138 rfl rf_138_2 ?_
          refine fr_iconst (pc := 153) dX3_tryOthers_153 (by decide) ?_
          refine fr_inVI (a := 73) (as := [(0, 1)]) (rest := [(2, 138)]) (ls' := [(2, 73), (0, 1), (9, 0), (9, 0)]) (c1 := 0) (c2 := 0) (pc := 154) dX3_tryOthers_154 pl_3_135 rfl ⟨Nat.le_of_ble_eq_true rfl, Nat.le_of_ble_eq_true rfl⟩ rfl rfl rfl s0_73 (Nat.le_of_ble_eq_true rfl) (by omega) rfl rfl (pm_zc _) (hq sc _ (by omega)) (fun r13 M12 hq => ?_)
          refine fr_put (a := 138) (i := 12) (pc := 157) dX3_tryOthers_157 rfl pf_3_139 rfl s0_138 rfl rfl nf_138_12 rfl ?_
          refine fr_aload_n (pc := 160) dX3_tryOthers_160 rfl rfl ?_
          refine fr_getr (a := 138) (pc := 161) dX3_tryOthers_161 rfl pf_3_19 s0_138 rfl rf_138_0 ?_
          refine fr_iload (pc := 164) dX3_tryOthers_164 rfl rfl ?_
          refine fr_iload (pc := 166) dX3_tryOthers_166 rfl rfl ?_
          refine fr_iload (pc := 168) dX3_tryOthers_168 rfl rfl ?_
          refine fr_inVV (a := 2) (as := [(0, l5), (0, l6), (0, l7)]) (rest := []) (ls' := [(2, 2), (0, l5), (0, l6), (0, l7)]) (c1 := 0) (c2 := 0) (pc := 170) dX3_tryOthers_170 pl_3_102 rfl ⟨Nat.le_of_ble_eq_true rfl, Nat.le_of_ble_eq_true rfl⟩ rfl rfl rfl s0_2 (Nat.le_of_ble_eq_true rfl) (by omega) rfl rfl (pm_zc _) ?_ (fun M' h => h)
          refine fr_aload_n (pc := 0) dX0_restore_0 rfl rfl ?_
          refine fr_getr (a := 2) (pc := 1) dX0_restore_1 rfl pf_0_15 s0_2 rfl rf_2_1 ?_
          refine fr_iload_n (pc := 4) dX0_restore_4 rfl rfl ?_
          refine fr_iload_n (pc := 5) dX0_restore_5 rfl rfl ?_
          refine fr_iastore (a := 4) (pc := 6) dX0_restore_6 rfl s0_4 hb3 nr_4 ?_
          refine fr_aload_n (pc := 7) dX0_restore_7 rfl rfl ?_
          refine fr_getr (a := 2) (pc := 8) dX0_restore_8 rfl pf_0_18 s0_2 rfl rf_2_2 ?_
          refine fr_iload_n (pc := 11) dX0_restore_11 rfl rfl ?_
          refine fr_iload_n (pc := 12) dX0_restore_12 rfl rfl ?_
          refine fr_iastore (a := 5) (pc := 13) dX0_restore_13 rfl s0_5 hb3 nr_5 ?_
          refine fr_vret (pc := 14) dX0_restore_14 rfl ?_
          refine fr_iinc (z := w32 (l9 + 1)) (ls2 := [(2, 138), (0, l1), (0, l2), (1, l3), (9, 0), (0, l5), (0, l6), (0, l7), (0, l8), (0, w32 (l9 + 1))]) (pc := 173) dX3_tryOthers_173 (Nat.le_of_ble_eq_true rfl) rfl rfl rfl ?_
          refine fr_goto (tg := 80) (pc := 176) dX3_tryOthers_176 rfl ?_
          exact hq sc d hd
      · refine fr_iconst (pc := 22) dX3_isIn_22 (by decide) ?_
        refine fr_iret (pc := 23) dX3_isIn_23 (Or.inr (Or.inl ⟨rfl, Or.inl rfl⟩)) ?_
        refine fr_ifcT (tg := 173) (pc := 114) dX3_tryOthers_114 rfl rfl ?_
        refine fr_iinc (z := w32 (l9 + 1)) (ls2 := [(2, 138), (0, l1), (0, l2), (1, l3), (9, 0), (0, l5), (0, l6), (0, l7), (0, l8), (0, w32 (l9 + 1))]) (pc := 173) dX3_tryOthers_173 (Nat.le_of_ble_eq_true rfl) rfl rfl rfl ?_
        refine fr_goto (tg := 80) (pc := 176) dX3_tryOthers_176 rfl ?_
        exact hq sc d hd
    · refine fr_iinc (z := w32 (l5 + 1)) (ls2 := [(2, 138), (0, l1), (0, l2), (1, l3), (9, 0), (0, w32 (l5 + 1)), (0, l6), (0, l7), (0, l8), (0, l9)]) (pc := 179) dX3_tryOthers_179 (Nat.le_of_ble_eq_true rfl) rfl rfl rfl ?_
      refine fr_goto (tg := 5) (pc := 182) dX3_tryOthers_182 rfl ?_
      exact hq sc d hd (0, l6) pm_t0 (0, l7) pm_t0 (0, l8) pm_t0 (0, l9) pm_t0
  · refine fr_iinc (z := w32 (l5 + 1)) (ls2 := [(2, 138), (0, l1), (0, l2), (1, l3), (9, 0), (0, w32 (l5 + 1)), (0, l6), (0, l7), (0, l8), (0, l9)]) (pc := 179) dX3_tryOthers_179 (Nat.le_of_ble_eq_true rfl) rfl rfl rfl ?_
    refine fr_goto (tg := 5) (pc := 182) dX3_tryOthers_182 rfl ?_
    exact hq sc d hd (0, l6) pm_t0 (0, l7) pm_t0 (0, l8) pm_t0 (0, l9) pm_t0
theorem k11_values_r {a1 a2 : Int} {M : pm_M} {K : Int → pm_M → Prop} (hq : (if a2 < 0 then K (-200) M else (if a2 ≤ 3 then (if a1 < 0 then K (-200) M else (if a1 < gI M 2 15 then ((0 ≤ a1 ∧ a1 < 60) ∧ (if gI M 3 a1 = 4 then k0_isGone a1 M (fun r8 M7 => (if r8 = 0 then k11_learnRuns M7 (fun M10 => k10_tryValues a1 M10 (fun M12 => (if a2 = 0 then K (gI M12 141 4) M12 else (if gI M12 141 4 = 0 then K (-200) M12 else (if a2 = 1 then K (gI M12 141 5) M12 else (if a2 = 2 then K (gI M12 141 6) M12 else K (gI M12 141 7) M12)))))) else K (-200) M7)) else K (-200) M)) else K (-200) M)) else K (-200) M))) : k11_values a1 a2 M K := by
  intro sc d hd
  refine fr_iload_n (pc := 0) dX11_values_0 rfl rfl ?_
  refine fr_ifc_lt (tg := 44) (pc := 1) dX11_values_1 rfl hq (fun hc1 hq => ?_) (fun hc1 hq => ?_)
  · refine fr_sipush (pc := 44) dX11_values_44 (by decide) ?_
    exact fr_iret (pc := 47) dX11_values_47 (Or.inl rfl) hq
  · refine fr_iload_n (pc := 4) dX11_values_4 rfl rfl ?_
    refine fr_iconst (pc := 5) dX11_values_5 (by decide) ?_
    refine fr_icm_gt (tg := 44) (pc := 6) dX11_values_6 rfl hq (fun hc2 hq => ?_) (fun hc2 hq => ?_)
    · refine fr_aload_n (pc := 9) dX11_values_9 rfl rfl ?_
      refine fr_getr (a := 0) (pc := 10) dX11_values_10 rfl pf_11_16 s0_0 rfl rf_0_4 ?_
      refine fr_iload_n (pc := 13) dX11_values_13 rfl rfl ?_
      refine fr_inVI (a := 2) (as := [(0, a1)]) (rest := []) (ls' := [(2, 2), (0, a1)]) (c1 := 0) (c2 := 0) (pc := 14) dX11_values_14 pl_11_128 rfl ⟨Nat.le_of_ble_eq_true rfl, Nat.le_of_ble_eq_true rfl⟩ rfl rfl rfl s0_2 (Nat.le_of_ble_eq_true rfl) (by omega) rfl rfl (pm_zc _) ?_ (fun y M' h => h)
      refine fr_iload_n (pc := 0) dX0_hasNode_0 rfl rfl ?_
      refine fr_ifc_lt (tg := 16) (pc := 1) dX0_hasNode_1 rfl hq (fun hc3 hq => ?_) (fun hc3 hq => ?_)
      · refine fr_iconst (pc := 16) dX0_hasNode_16 (by decide) ?_
        refine fr_iret (pc := 17) dX0_hasNode_17 (Or.inr (Or.inl ⟨rfl, Or.inl rfl⟩)) ?_
        refine fr_ifcT (tg := 44) (pc := 17) dX11_values_17 rfl rfl ?_
        refine fr_sipush (pc := 44) dX11_values_44 (by decide) ?_
        exact fr_iret (pc := 47) dX11_values_47 (Or.inl rfl) hq
      · refine fr_iload_n (pc := 4) dX0_hasNode_4 rfl rfl ?_
        refine fr_aload_n (pc := 5) dX0_hasNode_5 rfl rfl ?_
        refine fr_getf (a := 2) (i := 15) (v := gI M 2 15) (t := 0) (pc := 6) dX0_hasNode_6 rfl pf_0_57 rfl s0_2 rfl rfl ?_
        refine fr_icm_ge (tg := 16) (pc := 9) dX0_hasNode_9 rfl hq (fun hc4 hq => ?_) (fun hc4 hq => ?_)
        · refine fr_iconst (pc := 12) dX0_hasNode_12 (by decide) ?_
          refine fr_goto (tg := 17) (pc := 13) dX0_hasNode_13 rfl ?_
          refine fr_iret (pc := 17) dX0_hasNode_17 (Or.inr (Or.inl ⟨rfl, Or.inr rfl⟩)) ?_
          refine fr_ifcF (tg := 44) (pc := 17) dX11_values_17 rfl rfl ?_
          refine fr_aload_n (pc := 20) dX11_values_20 rfl rfl ?_
          refine fr_getr (a := 0) (pc := 21) dX11_values_21 rfl pf_11_16 s0_0 rfl rf_0_4 ?_
          refine fr_getr (a := 2) (pc := 24) dX11_values_24 rfl pf_11_139 s0_2 rfl rf_2_0 ?_
          refine fr_iload_n (pc := 27) dX11_values_27 rfl rfl ?_
          obtain ⟨hb5, hq⟩ := hq
          refine fr_iaload (a := 3) (v := gI M 3 a1) (pc := 28) dX11_values_28 rfl s0_3 hb5 rfl ?_
          refine fr_iconst (pc := 29) dX11_values_29 (by decide) ?_
          refine fr_icm_ne (tg := 44) (pc := 30) dX11_values_30 rfl hq (fun hc6 hq => ?_) (fun hc6 hq => ?_)
          · refine fr_aload_n (pc := 33) dX11_values_33 rfl rfl ?_
            refine fr_getr (a := 0) (pc := 34) dX11_values_34 rfl pf_11_16 s0_0 rfl rf_0_4 ?_
            refine fr_iload_n (pc := 37) dX11_values_37 rfl rfl ?_
            refine fr_inVI (a := 2) (as := [(0, a1)]) (rest := []) (ls' := [(2, 2), (0, a1), (9, 0), (9, 0)]) (c1 := 0) (c2 := 0) (pc := 38) dX11_values_38 pl_11_153 rfl ⟨Nat.le_of_ble_eq_true rfl, Nat.le_of_ble_eq_true rfl⟩ rfl rfl rfl s0_2 (Nat.le_of_ble_eq_true rfl) (by omega) rfl rfl (pm_zc _) (hq sc _ (by omega)) (fun r8 M7 hq => ?_)
            refine fr_ifc_eq (tg := 48) (pc := 41) dX11_values_41 rfl hq (fun hc9 hq => ?_) (fun hc9 hq => ?_)
            · refine fr_aload_n (pc := 48) dX11_values_48 rfl rfl ?_
              refine fr_inVV (a := 0) (as := []) (rest := []) (ls' := [(2, 0)]) (c1 := 0) (c2 := 0) (pc := 49) dX11_values_49 pl_11_195 rfl ⟨Nat.le_of_ble_eq_true rfl, Nat.le_of_ble_eq_true rfl⟩ rfl rfl rfl s0_0 (Nat.le_of_ble_eq_true rfl) (by omega) rfl rfl (pm_zc _) (hq sc _ (by omega)) (fun M10 hq => ?_)
              refine fr_aload_n (pc := 52) dX11_values_52 rfl rfl ?_
              refine fr_getr (a := 0) (pc := 53) dX11_values_53 rfl pf_11_102 s0_0 rfl rf_0_13 ?_
              refine fr_iload_n (pc := 56) dX11_values_56 rfl rfl ?_
              refine fr_inVV (a := 141) (as := [(0, a1)]) (rest := []) (ls' := [(2, 141), (0, a1), (9, 0), (9, 0)]) (c1 := 0) (c2 := 0) (pc := 57) dX11_values_57 pl_11_288 rfl ⟨Nat.le_of_ble_eq_true rfl, Nat.le_of_ble_eq_true rfl⟩ rfl rfl rfl s0_141 (Nat.le_of_ble_eq_true rfl) (by omega) rfl rfl (pm_zc _) (hq sc _ (by omega)) (fun M12 hq => ?_)
              refine fr_iload_n (pc := 60) dX11_values_60 rfl rfl ?_
              refine fr_ifc_ne (tg := 72) (pc := 61) dX11_values_61 rfl hq (fun hc14 hq => ?_) (fun hc14 hq => ?_)
              · refine fr_aload_n (pc := 64) dX11_values_64 rfl rfl ?_
                refine fr_getr (a := 0) (pc := 65) dX11_values_65 rfl pf_11_102 s0_0 rfl rf_0_13 ?_
                refine fr_getf (a := 141) (i := 4) (v := gI M12 141 4) (t := 0) (pc := 68) dX11_values_68 rfl pf_11_291 rfl s0_141 rfl rfl ?_
                exact fr_iret (pc := 71) dX11_values_71 (Or.inl rfl) hq
              · refine fr_aload_n (pc := 72) dX11_values_72 rfl rfl ?_
                refine fr_getr (a := 0) (pc := 73) dX11_values_73 rfl pf_11_102 s0_0 rfl rf_0_13 ?_
                refine fr_getf (a := 141) (i := 4) (v := gI M12 141 4) (t := 0) (pc := 76) dX11_values_76 rfl pf_11_291 rfl s0_141 rfl rfl ?_
                refine fr_ifc_ne (tg := 86) (pc := 79) dX11_values_79 rfl hq (fun hc15 hq => ?_) (fun hc15 hq => ?_)
                · refine fr_sipush (pc := 82) dX11_values_82 (by decide) ?_
                  exact fr_iret (pc := 85) dX11_values_85 (Or.inl rfl) hq
                · refine fr_iload_n (pc := 86) dX11_values_86 rfl rfl ?_
                  refine fr_iconst (pc := 87) dX11_values_87 (by decide) ?_
                  refine fr_icm_ne (tg := 101) (pc := 88) dX11_values_88 rfl hq (fun hc16 hq => ?_) (fun hc16 hq => ?_)
                  · refine fr_aload_n (pc := 91) dX11_values_91 rfl rfl ?_
                    refine fr_getr (a := 0) (pc := 92) dX11_values_92 rfl pf_11_102 s0_0 rfl rf_0_13 ?_
                    refine fr_getf (a := 141) (i := 5) (v := gI M12 141 5) (t := 0) (pc := 95) dX11_values_95 rfl pf_11_292 rfl s0_141 rfl rfl ?_
                    refine fr_goto (tg := 123) (pc := 98) dX11_values_98 rfl ?_
                    exact fr_iret (pc := 123) dX11_values_123 (Or.inl rfl) hq
                  · refine fr_iload_n (pc := 101) dX11_values_101 rfl rfl ?_
                    refine fr_iconst (pc := 102) dX11_values_102 (by decide) ?_
                    refine fr_icm_ne (tg := 116) (pc := 103) dX11_values_103 rfl hq (fun hc17 hq => ?_) (fun hc17 hq => ?_)
                    · refine fr_aload_n (pc := 106) dX11_values_106 rfl rfl ?_
                      refine fr_getr (a := 0) (pc := 107) dX11_values_107 rfl pf_11_102 s0_0 rfl rf_0_13 ?_
                      refine fr_getf (a := 141) (i := 6) (v := gI M12 141 6) (t := 0) (pc := 110) dX11_values_110 rfl pf_11_295 rfl s0_141 rfl rfl ?_
                      refine fr_goto (tg := 123) (pc := 113) dX11_values_113 rfl ?_
                      exact fr_iret (pc := 123) dX11_values_123 (Or.inl rfl) hq
                    · refine fr_aload_n (pc := 116) dX11_values_116 rfl rfl ?_
                      refine fr_getr (a := 0) (pc := 117) dX11_values_117 rfl pf_11_102 s0_0 rfl rf_0_13 ?_
                      refine fr_getf (a := 141) (i := 7) (v := gI M12 141 7) (t := 0) (pc := 120) dX11_values_120 rfl pf_11_298 rfl s0_141 rfl rfl ?_
                      exact fr_iret (pc := 123) dX11_values_123 (Or.inl rfl) hq
            · refine fr_sipush (pc := 44) dX11_values_44 (by decide) ?_
              exact fr_iret (pc := 47) dX11_values_47 (Or.inl rfl) hq
          · refine fr_sipush (pc := 44) dX11_values_44 (by decide) ?_
            exact fr_iret (pc := 47) dX11_values_47 (Or.inl rfl) hq
        · refine fr_iconst (pc := 16) dX0_hasNode_16 (by decide) ?_
          refine fr_iret (pc := 17) dX0_hasNode_17 (Or.inr (Or.inl ⟨rfl, Or.inl rfl⟩)) ?_
          refine fr_ifcT (tg := 44) (pc := 17) dX11_values_17 rfl rfl ?_
          refine fr_sipush (pc := 44) dX11_values_44 (by decide) ?_
          exact fr_iret (pc := 47) dX11_values_47 (Or.inl rfl) hq
    · refine fr_sipush (pc := 44) dX11_values_44 (by decide) ?_
      exact fr_iret (pc := 47) dX11_values_47 (Or.inl rfl) hq
theorem k10_tryValues_r {a1 : Int} {M : pm_M} {K : pm_M → Prop} (hq : (if gI M 141 3 = a1 then K M else ((0 ≤ a1 ∧ a1 < 60) ∧ (if pm_lcmp (pm_land (pm_lshr (gI M 77 13) (gI M 7 a1)) 1) 1 = 0 then k10_tryValues_52 a1 (gI M 4 a1) (-99) (upI (upI M 141 3 a1) 141 4 0) K else K (upI (upI M 141 3 a1) 141 4 0))))) : k10_tryValues a1 M K := by
  intro sc d hd
  refine fr_aload_n (pc := 0) dX10_tryValues_0 rfl rfl ?_
  refine fr_getf (a := 141) (i := 3) (v := gI M 141 3) (t := 0) (pc := 1) dX10_tryValues_1 rfl pf_10_9 rfl s0_141 rfl rfl ?_
  refine fr_iload_n (pc := 4) dX10_tryValues_4 rfl rfl ?_
  refine fr_icm_ne (tg := 9) (pc := 5) dX10_tryValues_5 rfl hq (fun hc1 hq => ?_) (fun hc1 hq => ?_)
  · exact fr_vret (pc := 8) dX10_tryValues_8 rfl hq
  · refine fr_aload_n (pc := 9) dX10_tryValues_9 rfl rfl ?_
    refine fr_iload_n (pc := 10) dX10_tryValues_10 rfl rfl ?_
    refine fr_put (a := 141) (i := 3) (pc := 11) dX10_tryValues_11 rfl pf_10_9 rfl s0_141 rfl rfl nf_141_3 rfl ?_
    refine fr_aload_n (pc := 14) dX10_tryValues_14 rfl rfl ?_
    refine fr_iconst (pc := 15) dX10_tryValues_15 (by decide) ?_
    refine fr_put (a := 141) (i := 4) (pc := 16) dX10_tryValues_16 rfl pf_10_27 rfl s0_141 rfl rfl nf_141_4 rfl ?_
    refine fr_aload_n (pc := 19) dX10_tryValues_19 rfl rfl ?_
    refine fr_getr (a := 141) (pc := 20) dX10_tryValues_20 rfl pf_10_23 s0_141 rfl rf_141_2 ?_
    refine fr_aload_n (pc := 23) dX10_tryValues_23 rfl rfl ?_
    refine fr_getr (a := 141) (pc := 24) dX10_tryValues_24 rfl pf_10_15 s0_141 rfl rf_141_0 ?_
    refine fr_getr (a := 2) (pc := 27) dX10_tryValues_27 rfl pf_10_30 s0_2 rfl rf_2_4 ?_
    refine fr_iload_n (pc := 30) dX10_tryValues_30 rfl rfl ?_
    obtain ⟨hb2, hq⟩ := hq
    refine fr_iaload (a := 7) (v := gI M 7 a1) (pc := 31) dX10_tryValues_31 rfl s0_7 hb2 ((gI_ne _ _ _ _ (by decide)).trans (gI_ne _ _ _ _ (by decide))) ?_
    refine fr_inVI (a := 77) (as := [(0, gI M 7 a1)]) (rest := []) (ls' := [(2, 77), (0, gI M 7 a1)]) (c1 := 0) (c2 := 0) (pc := 32) dX10_tryValues_32 pl_10_36 rfl ⟨Nat.le_of_ble_eq_true rfl, Nat.le_of_ble_eq_true rfl⟩ rfl rfl rfl s0_77 (Nat.le_of_ble_eq_true rfl) (by omega) rfl rfl (pm_zc _) ?_ (fun y M' h => h)
    refine fr_aload_n (pc := 0) dX6_couldMend_0 rfl rfl ?_
    refine fr_getf (a := 77) (i := 13) (v := gI M 77 13) (t := 1) (pc := 1) dX6_couldMend_1 rfl pf_6_60 rfl s0_77 rfl ((gI_ne _ _ _ _ (by decide)).trans (gI_ne _ _ _ _ (by decide))) ?_
    refine fr_iload_n (pc := 4) dX6_couldMend_4 rfl rfl ?_
    refine fr_lshr (pc := 5) dX6_couldMend_5 ?_
    refine fr_lconst (pc := 6) dX6_couldMend_6 rfl ?_
    refine fr_land (pc := 7) dX6_couldMend_7 ?_
    refine fr_lconst (pc := 8) dX6_couldMend_8 rfl ?_
    refine fr_lcmp (pc := 9) dX6_couldMend_9 ?_
    refine fr_ifc_ne (tg := 17) (pc := 10) dX6_couldMend_10 rfl hq (fun hc3 hq => ?_) (fun hc3 hq => ?_)
    · refine fr_iconst (pc := 13) dX6_couldMend_13 (by decide) ?_
      refine fr_goto (tg := 18) (pc := 14) dX6_couldMend_14 rfl ?_
      refine fr_iret (pc := 18) dX6_couldMend_18 (Or.inr (Or.inl ⟨rfl, Or.inr rfl⟩)) ?_
      refine fr_ifcT (tg := 39) (pc := 35) dX10_tryValues_35 rfl rfl ?_
      refine fr_aload_n (pc := 39) dX10_tryValues_39 rfl rfl ?_
      refine fr_getr (a := 141) (pc := 40) dX10_tryValues_40 rfl pf_10_15 s0_141 rfl rf_141_0 ?_
      refine fr_getr (a := 2) (pc := 43) dX10_tryValues_43 rfl pf_10_42 s0_2 rfl rf_2_1 ?_
      refine fr_iload_n (pc := 46) dX10_tryValues_46 rfl rfl ?_
      refine fr_iaload (a := 4) (v := gI M 4 a1) (pc := 47) dX10_tryValues_47 rfl s0_4 hb2 ((gI_ne _ _ _ _ (by decide)).trans (gI_ne _ _ _ _ (by decide))) ?_
      refine fr_istore_n (ls2 := [(2, 141), (0, a1), (0, gI M 4 a1), (9, 0)]) (pc := 48) dX10_tryValues_48 rfl (Nat.le_of_ble_eq_true rfl) rfl ?_
      refine fr_bipush (pc := 49) dX10_tryValues_49 (by decide) ?_
      refine fr_istore_n (ls2 := [(2, 141), (0, a1), (0, gI M 4 a1), (0, (-99))]) (pc := 51) dX10_tryValues_51 rfl (Nat.le_of_ble_eq_true rfl) rfl ?_
      exact hq sc d hd
    · refine fr_iconst (pc := 17) dX6_couldMend_17 (by decide) ?_
      refine fr_iret (pc := 18) dX6_couldMend_18 (Or.inr (Or.inl ⟨rfl, Or.inl rfl⟩)) ?_
      refine fr_ifcF (tg := 39) (pc := 35) dX10_tryValues_35 rfl rfl ?_
      exact fr_vret (pc := 38) dX10_tryValues_38 rfl hq
theorem k10_tryValues_52_r {l1 l2 l3 : Int} {M : pm_M} {K : pm_M → Prop} (hq : (if l3 ≤ 99 then ((0 ≤ l1 ∧ l1 < 60) ∧ k1_allShownPass (upI M 4 l1 l3) (fun r4 M3 => (if r4 = 0 then k10_tryValues_52 l1 l2 (w32 (l3 + 1)) M3 K else k10_keepValue l3 l2 M3 (fun M6 => k10_tryValues_52 l1 l2 (w32 (l3 + 1)) M6 K)))) else ((0 ≤ l1 ∧ l1 < 60) ∧ K (upI M 4 l1 l2)))) : k10_tryValues_52 l1 l2 l3 M K := by
  intro sc d hd
  refine fr_iload_n (pc := 52) dX10_tryValues_52 rfl rfl ?_
  refine fr_bipush (pc := 53) dX10_tryValues_53 (by decide) ?_
  refine fr_icm_gt (tg := 90) (pc := 55) dX10_tryValues_55 rfl hq (fun hc1 hq => ?_) (fun hc1 hq => ?_)
  · refine fr_aload_n (pc := 58) dX10_tryValues_58 rfl rfl ?_
    refine fr_getr (a := 141) (pc := 59) dX10_tryValues_59 rfl pf_10_15 s0_141 rfl rf_141_0 ?_
    refine fr_getr (a := 2) (pc := 62) dX10_tryValues_62 rfl pf_10_42 s0_2 rfl rf_2_1 ?_
    refine fr_iload_n (pc := 65) dX10_tryValues_65 rfl rfl ?_
    refine fr_iload_n (pc := 66) dX10_tryValues_66 rfl rfl ?_
    obtain ⟨hb2, hq⟩ := hq
    refine fr_iastore (a := 4) (pc := 67) dX10_tryValues_67 rfl s0_4 hb2 nr_4 ?_
    refine fr_aload_n (pc := 68) dX10_tryValues_68 rfl rfl ?_
    refine fr_getr (a := 141) (pc := 69) dX10_tryValues_69 rfl pf_10_19 s0_141 rfl rf_141_1 ?_
    refine fr_inVI (a := 73) (as := []) (rest := []) (ls' := [(2, 73), (9, 0), (9, 0)]) (c1 := 0) (c2 := 0) (pc := 72) dX10_tryValues_72 pl_10_45 rfl ⟨Nat.le_of_ble_eq_true rfl, Nat.le_of_ble_eq_true rfl⟩ rfl rfl rfl s0_73 (Nat.le_of_ble_eq_true rfl) (by omega) rfl rfl (pm_zc _) (hq sc _ (by omega)) (fun r4 M3 hq => ?_)
    refine fr_ifc_eq (tg := 84) (pc := 75) dX10_tryValues_75 rfl hq (fun hc5 hq => ?_) (fun hc5 hq => ?_)
    · refine fr_iinc (z := w32 (l3 + 1)) (ls2 := [(2, 141), (0, l1), (0, l2), (0, w32 (l3 + 1))]) (pc := 84) dX10_tryValues_84 (Nat.le_of_ble_eq_true rfl) rfl rfl rfl ?_
      refine fr_goto (tg := 52) (pc := 87) dX10_tryValues_87 rfl ?_
      exact hq sc d hd
    · refine fr_aload_n (pc := 78) dX10_tryValues_78 rfl rfl ?_
      refine fr_iload_n (pc := 79) dX10_tryValues_79 rfl rfl ?_
      refine fr_iload_n (pc := 80) dX10_tryValues_80 rfl rfl ?_
      refine fr_inVV (a := 141) (as := [(0, l3), (0, l2)]) (rest := []) (ls' := [(2, 141), (0, l3), (0, l2)]) (c1 := 0) (c2 := 0) (pc := 81) dX10_tryValues_81 pl_10_51 rfl ⟨Nat.le_of_ble_eq_true rfl, Nat.le_of_ble_eq_true rfl⟩ rfl rfl rfl s0_141 (Nat.le_of_ble_eq_true rfl) (by omega) rfl rfl (pm_zc _) (hq sc _ (by omega)) (fun M6 hq => ?_)
      refine fr_iinc (z := w32 (l3 + 1)) (ls2 := [(2, 141), (0, l1), (0, l2), (0, w32 (l3 + 1))]) (pc := 84) dX10_tryValues_84 (Nat.le_of_ble_eq_true rfl) rfl rfl rfl ?_
      refine fr_goto (tg := 52) (pc := 87) dX10_tryValues_87 rfl ?_
      exact hq sc d hd
  · refine fr_aload_n (pc := 90) dX10_tryValues_90 rfl rfl ?_
    refine fr_getr (a := 141) (pc := 91) dX10_tryValues_91 rfl pf_10_15 s0_141 rfl rf_141_0 ?_
    refine fr_getr (a := 2) (pc := 94) dX10_tryValues_94 rfl pf_10_42 s0_2 rfl rf_2_1 ?_
    refine fr_iload_n (pc := 97) dX10_tryValues_97 rfl rfl ?_
    refine fr_iload_n (pc := 98) dX10_tryValues_98 rfl rfl ?_
    obtain ⟨hb8, hq⟩ := hq
    refine fr_iastore (a := 4) (pc := 99) dX10_tryValues_99 rfl s0_4 hb8 nr_4 ?_
    exact fr_vret (pc := 100) dX10_tryValues_100 rfl hq
theorem k10_keepValue_r {a1 a2 : Int} {M : pm_M} {K : pm_M → Prop} (hq : (if gI M 141 4 = 0 then (if (if 0 ≤ w32 (a1 - a2) then w32 (a1 - a2) else w32 (0 - (w32 (a1 - a2)))) < (if 0 ≤ w32 (a1 - a2) then w32 (a1 - a2) else w32 (0 - (w32 (a1 - a2)))) then K (upI (upI (upI (upI (upI M 141 5 a1) 141 7 a1) 141 6 a1) 141 7 a1) 141 4 (w32 ((gI M 141 4) + 1))) else K (upI (upI (upI (upI M 141 5 a1) 141 7 a1) 141 6 a1) 141 4 (w32 ((gI M 141 4) + 1)))) else (if (if 0 ≤ w32 (a1 - a2) then w32 (a1 - a2) else w32 (0 - (w32 (a1 - a2)))) < (if 0 ≤ w32 ((gI M 141 7) - a2) then w32 ((gI M 141 7) - a2) else w32 (0 - (w32 ((gI M 141 7) - a2)))) then K (upI (upI (upI M 141 6 a1) 141 7 a1) 141 4 (w32 ((gI M 141 4) + 1))) else K (upI (upI M 141 6 a1) 141 4 (w32 ((gI M 141 4) + 1)))))) : k10_keepValue a1 a2 M K := by
  intro sc d hd
  refine fr_aload_n (pc := 0) dX10_keepValue_0 rfl rfl ?_
  refine fr_getf (a := 141) (i := 4) (v := gI M 141 4) (t := 0) (pc := 1) dX10_keepValue_1 rfl pf_10_27 rfl s0_141 rfl rfl ?_
  refine fr_ifc_ne (tg := 17) (pc := 4) dX10_keepValue_4 rfl hq (fun hc1 hq => ?_) (fun hc1 hq => ?_)
  · refine fr_aload_n (pc := 7) dX10_keepValue_7 rfl rfl ?_
    refine fr_iload_n (pc := 8) dX10_keepValue_8 rfl rfl ?_
    refine fr_put (a := 141) (i := 5) (pc := 9) dX10_keepValue_9 rfl pf_10_55 rfl s0_141 rfl rfl nf_141_5 rfl ?_
    refine fr_aload_n (pc := 12) dX10_keepValue_12 rfl rfl ?_
    refine fr_iload_n (pc := 13) dX10_keepValue_13 rfl rfl ?_
    refine fr_put (a := 141) (i := 7) (pc := 14) dX10_keepValue_14 rfl pf_10_58 rfl s0_141 rfl rfl nf_141_7 rfl ?_
    refine fr_aload_n (pc := 17) dX10_keepValue_17 rfl rfl ?_
    refine fr_iload_n (pc := 18) dX10_keepValue_18 rfl rfl ?_
    refine fr_put (a := 141) (i := 6) (pc := 19) dX10_keepValue_19 rfl pf_10_61 rfl s0_141 rfl rfl nf_141_6 rfl ?_
    refine fr_iload_n (pc := 22) dX10_keepValue_22 rfl rfl ?_
    refine fr_iload_n (pc := 23) dX10_keepValue_23 rfl rfl ?_
    refine fr_isub (z := w32 (a1 - a2)) (pc := 24) dX10_keepValue_24 rfl ?_
    refine fr_abs (pc := 25) dX10_keepValue_25 pl_10_64 rfl (Nat.le_of_ble_eq_true rfl) ?_
    refine fr_aload_n (pc := 28) dX10_keepValue_28 rfl rfl ?_
    refine fr_getf (a := 141) (i := 7) (v := a1) (t := 0) (pc := 29) dX10_keepValue_29 rfl pf_10_58 rfl s0_141 rfl ((gI_nf _ _ (by decide)).trans (gI_eq _ _ _ _)) ?_
    refine fr_iload_n (pc := 32) dX10_keepValue_32 rfl rfl ?_
    refine fr_isub (z := w32 (a1 - a2)) (pc := 33) dX10_keepValue_33 rfl ?_
    refine fr_abs (pc := 34) dX10_keepValue_34 pl_10_64 rfl (Nat.le_of_ble_eq_true rfl) ?_
    refine fr_icm_ge (tg := 45) (pc := 37) dX10_keepValue_37 rfl hq (fun hc2 hq => ?_) (fun hc2 hq => ?_)
    · refine fr_aload_n (pc := 40) dX10_keepValue_40 rfl rfl ?_
      refine fr_iload_n (pc := 41) dX10_keepValue_41 rfl rfl ?_
      refine fr_put (a := 141) (i := 7) (pc := 42) dX10_keepValue_42 rfl pf_10_58 rfl s0_141 rfl rfl nf_141_7 rfl ?_
      refine fr_aload_n (pc := 45) dX10_keepValue_45 rfl rfl ?_
      refine fr_dup (pc := 46) dX10_keepValue_46 pm_t2 ?_
      refine fr_getf (a := 141) (i := 4) (v := gI M 141 4) (t := 0) (pc := 47) dX10_keepValue_47 rfl pf_10_27 rfl s0_141 rfl ((gI_nf _ _ (by decide)).trans ((gI_nf _ _ (by decide)).trans ((gI_nf _ _ (by decide)).trans (gI_nf _ _ (by decide))))) ?_
      refine fr_iconst (pc := 50) dX10_keepValue_50 (by decide) ?_
      refine fr_iadd (z := w32 ((gI M 141 4) + 1)) (pc := 51) dX10_keepValue_51 rfl ?_
      refine fr_put (a := 141) (i := 4) (pc := 52) dX10_keepValue_52 rfl pf_10_27 rfl s0_141 rfl rfl nf_141_4 rfl ?_
      exact fr_vret (pc := 55) dX10_keepValue_55 rfl hq
    · refine fr_aload_n (pc := 45) dX10_keepValue_45 rfl rfl ?_
      refine fr_dup (pc := 46) dX10_keepValue_46 pm_t2 ?_
      refine fr_getf (a := 141) (i := 4) (v := gI M 141 4) (t := 0) (pc := 47) dX10_keepValue_47 rfl pf_10_27 rfl s0_141 rfl ((gI_nf _ _ (by decide)).trans ((gI_nf _ _ (by decide)).trans (gI_nf _ _ (by decide)))) ?_
      refine fr_iconst (pc := 50) dX10_keepValue_50 (by decide) ?_
      refine fr_iadd (z := w32 ((gI M 141 4) + 1)) (pc := 51) dX10_keepValue_51 rfl ?_
      refine fr_put (a := 141) (i := 4) (pc := 52) dX10_keepValue_52 rfl pf_10_27 rfl s0_141 rfl rfl nf_141_4 rfl ?_
      exact fr_vret (pc := 55) dX10_keepValue_55 rfl hq
  · refine fr_aload_n (pc := 17) dX10_keepValue_17 rfl rfl ?_
    refine fr_iload_n (pc := 18) dX10_keepValue_18 rfl rfl ?_
    refine fr_put (a := 141) (i := 6) (pc := 19) dX10_keepValue_19 rfl pf_10_61 rfl s0_141 rfl rfl nf_141_6 rfl ?_
    refine fr_iload_n (pc := 22) dX10_keepValue_22 rfl rfl ?_
    refine fr_iload_n (pc := 23) dX10_keepValue_23 rfl rfl ?_
    refine fr_isub (z := w32 (a1 - a2)) (pc := 24) dX10_keepValue_24 rfl ?_
    refine fr_abs (pc := 25) dX10_keepValue_25 pl_10_64 rfl (Nat.le_of_ble_eq_true rfl) ?_
    refine fr_aload_n (pc := 28) dX10_keepValue_28 rfl rfl ?_
    refine fr_getf (a := 141) (i := 7) (v := gI M 141 7) (t := 0) (pc := 29) dX10_keepValue_29 rfl pf_10_58 rfl s0_141 rfl (gI_nf _ _ (by decide)) ?_
    refine fr_iload_n (pc := 32) dX10_keepValue_32 rfl rfl ?_
    refine fr_isub (z := w32 ((gI M 141 7) - a2)) (pc := 33) dX10_keepValue_33 rfl ?_
    refine fr_abs (pc := 34) dX10_keepValue_34 pl_10_64 rfl (Nat.le_of_ble_eq_true rfl) ?_
    refine fr_icm_ge (tg := 45) (pc := 37) dX10_keepValue_37 rfl hq (fun hc3 hq => ?_) (fun hc3 hq => ?_)
    · refine fr_aload_n (pc := 40) dX10_keepValue_40 rfl rfl ?_
      refine fr_iload_n (pc := 41) dX10_keepValue_41 rfl rfl ?_
      refine fr_put (a := 141) (i := 7) (pc := 42) dX10_keepValue_42 rfl pf_10_58 rfl s0_141 rfl rfl nf_141_7 rfl ?_
      refine fr_aload_n (pc := 45) dX10_keepValue_45 rfl rfl ?_
      refine fr_dup (pc := 46) dX10_keepValue_46 pm_t2 ?_
      refine fr_getf (a := 141) (i := 4) (v := gI M 141 4) (t := 0) (pc := 47) dX10_keepValue_47 rfl pf_10_27 rfl s0_141 rfl ((gI_nf _ _ (by decide)).trans (gI_nf _ _ (by decide))) ?_
      refine fr_iconst (pc := 50) dX10_keepValue_50 (by decide) ?_
      refine fr_iadd (z := w32 ((gI M 141 4) + 1)) (pc := 51) dX10_keepValue_51 rfl ?_
      refine fr_put (a := 141) (i := 4) (pc := 52) dX10_keepValue_52 rfl pf_10_27 rfl s0_141 rfl rfl nf_141_4 rfl ?_
      exact fr_vret (pc := 55) dX10_keepValue_55 rfl hq
    · refine fr_aload_n (pc := 45) dX10_keepValue_45 rfl rfl ?_
      refine fr_dup (pc := 46) dX10_keepValue_46 pm_t2 ?_
      refine fr_getf (a := 141) (i := 4) (v := gI M 141 4) (t := 0) (pc := 47) dX10_keepValue_47 rfl pf_10_27 rfl s0_141 rfl (gI_nf _ _ (by decide)) ?_
      refine fr_iconst (pc := 50) dX10_keepValue_50 (by decide) ?_
      refine fr_iadd (z := w32 ((gI M 141 4) + 1)) (pc := 51) dX10_keepValue_51 rfl ?_
      refine fr_put (a := 141) (i := 4) (pc := 52) dX10_keepValue_52 rfl pf_10_27 rfl s0_141 rfl rfl nf_141_4 rfl ?_
      exact fr_vret (pc := 55) dX10_keepValue_55 rfl hq
theorem k11_forced_r {a1 a2 : Int} {M : pm_M} {K : Int → pm_M → Prop} (hq : (if a1 < 0 then K (-1) M else (if a1 < gI M 2 15 then ((0 ≤ a1 ∧ a1 < 60) ∧ (if gI M 3 a1 = 1 then k0_isGone a1 M (fun r6 M5 => (if r6 = 0 then k10_passingIfForced a1 a2 M5 (fun r9 M8 => K r9 M8) else K (-1) M5)) else (if gI M 3 a1 = 2 then k0_isGone a1 M (fun r12 M11 => (if r12 = 0 then k10_passingIfForced a1 a2 M11 (fun r15 M14 => K r15 M14) else K (-1) M11)) else K (-1) M))) else K (-1) M))) : k11_forced a1 a2 M K := by
  intro sc d hd
  refine fr_aload_n (pc := 0) dX11_forced_0 rfl rfl ?_
  refine fr_getr (a := 0) (pc := 1) dX11_forced_1 rfl pf_11_16 s0_0 rfl rf_0_4 ?_
  refine fr_iload_n (pc := 4) dX11_forced_4 rfl rfl ?_
  refine fr_inVI (a := 2) (as := [(0, a1)]) (rest := []) (ls' := [(2, 2), (0, a1)]) (c1 := 0) (c2 := 0) (pc := 5) dX11_forced_5 pl_11_301 rfl ⟨Nat.le_of_ble_eq_true rfl, Nat.le_of_ble_eq_true rfl⟩ rfl rfl rfl s0_2 (Nat.le_of_ble_eq_true rfl) (by omega) rfl rfl (pm_zc _) ?_ (fun y M' h => h)
  refine fr_aload_n (pc := 0) dX0_isCondition_0 rfl rfl ?_
  refine fr_iload_n (pc := 1) dX0_isCondition_1 rfl rfl ?_
  refine fr_inVI (a := 2) (as := [(0, a1)]) (rest := []) (ls' := [(2, 2), (0, a1)]) (c1 := 0) (c2 := 0) (pc := 2) dX0_isCondition_2 pl_0_97 rfl ⟨Nat.le_of_ble_eq_true rfl, Nat.le_of_ble_eq_true rfl⟩ rfl rfl rfl s0_2 (Nat.le_of_ble_eq_true rfl) (by omega) rfl rfl (pm_zc _) ?_ (fun y M' h => h)
  refine fr_iload_n (pc := 0) dX0_hasNode_0 rfl rfl ?_
  refine fr_ifc_lt (tg := 16) (pc := 1) dX0_hasNode_1 rfl hq (fun hc1 hq => ?_) (fun hc1 hq => ?_)
  · refine fr_iconst (pc := 16) dX0_hasNode_16 (by decide) ?_
    refine fr_iret (pc := 17) dX0_hasNode_17 (Or.inr (Or.inl ⟨rfl, Or.inl rfl⟩)) ?_
    refine fr_ifcT (tg := 32) (pc := 5) dX0_isCondition_5 rfl rfl ?_
    refine fr_iconst (pc := 32) dX0_isCondition_32 (by decide) ?_
    refine fr_iret (pc := 33) dX0_isCondition_33 (Or.inr (Or.inl ⟨rfl, Or.inl rfl⟩)) ?_
    refine fr_ifcT (tg := 22) (pc := 8) dX11_forced_8 rfl rfl ?_
    refine fr_iconst (pc := 22) dX11_forced_22 (by decide) ?_
    exact fr_iret (pc := 23) dX11_forced_23 (Or.inl rfl) hq
  · refine fr_iload_n (pc := 4) dX0_hasNode_4 rfl rfl ?_
    refine fr_aload_n (pc := 5) dX0_hasNode_5 rfl rfl ?_
    refine fr_getf (a := 2) (i := 15) (v := gI M 2 15) (t := 0) (pc := 6) dX0_hasNode_6 rfl pf_0_57 rfl s0_2 rfl rfl ?_
    refine fr_icm_ge (tg := 16) (pc := 9) dX0_hasNode_9 rfl hq (fun hc2 hq => ?_) (fun hc2 hq => ?_)
    · refine fr_iconst (pc := 12) dX0_hasNode_12 (by decide) ?_
      refine fr_goto (tg := 17) (pc := 13) dX0_hasNode_13 rfl ?_
      refine fr_iret (pc := 17) dX0_hasNode_17 (Or.inr (Or.inl ⟨rfl, Or.inr rfl⟩)) ?_
      refine fr_ifcF (tg := 32) (pc := 5) dX0_isCondition_5 rfl rfl ?_
      refine fr_aload_n (pc := 8) dX0_isCondition_8 rfl rfl ?_
      refine fr_getr (a := 2) (pc := 9) dX0_isCondition_9 rfl pf_0_9 s0_2 rfl rf_2_0 ?_
      refine fr_iload_n (pc := 12) dX0_isCondition_12 rfl rfl ?_
      obtain ⟨hb3, hq⟩ := hq
      refine fr_iaload (a := 3) (v := gI M 3 a1) (pc := 13) dX0_isCondition_13 rfl s0_3 hb3 rfl ?_
      refine fr_iconst (pc := 14) dX0_isCondition_14 (by decide) ?_
      refine fr_icm_eq (tg := 28) (pc := 15) dX0_isCondition_15 rfl hq (fun hc4 hq => ?_) (fun hc4 hq => ?_)
      · refine fr_iconst (pc := 28) dX0_isCondition_28 (by decide) ?_
        refine fr_goto (tg := 33) (pc := 29) dX0_isCondition_29 rfl ?_
        refine fr_iret (pc := 33) dX0_isCondition_33 (Or.inr (Or.inl ⟨rfl, Or.inr rfl⟩)) ?_
        refine fr_ifcF (tg := 22) (pc := 8) dX11_forced_8 rfl rfl ?_
        refine fr_aload_n (pc := 11) dX11_forced_11 rfl rfl ?_
        refine fr_getr (a := 0) (pc := 12) dX11_forced_12 rfl pf_11_16 s0_0 rfl rf_0_4 ?_
        refine fr_iload_n (pc := 15) dX11_forced_15 rfl rfl ?_
        refine fr_inVI (a := 2) (as := [(0, a1)]) (rest := []) (ls' := [(2, 2), (0, a1), (9, 0), (9, 0)]) (c1 := 0) (c2 := 0) (pc := 16) dX11_forced_16 pl_11_153 rfl ⟨Nat.le_of_ble_eq_true rfl, Nat.le_of_ble_eq_true rfl⟩ rfl rfl rfl s0_2 (Nat.le_of_ble_eq_true rfl) (by omega) rfl rfl (pm_zc _) (hq sc _ (by omega)) (fun r6 M5 hq => ?_)
        refine fr_ifc_eq (tg := 24) (pc := 19) dX11_forced_19 rfl hq (fun hc7 hq => ?_) (fun hc7 hq => ?_)
        · refine fr_aload_n (pc := 24) dX11_forced_24 rfl rfl ?_
          refine fr_getr (a := 0) (pc := 25) dX11_forced_25 rfl pf_11_102 s0_0 rfl rf_0_13 ?_
          refine fr_iload_n (pc := 28) dX11_forced_28 rfl rfl ?_
          refine fr_iload_n (pc := 29) dX11_forced_29 rfl rfl ?_
          refine fr_inVI (a := 141) (as := [(0, a1), (0, a2)]) (rest := []) (ls' := [(2, 141), (0, a1), (0, a2), (9, 0)]) (c1 := 0) (c2 := 0) (pc := 30) dX11_forced_30 pl_11_304 rfl ⟨Nat.le_of_ble_eq_true rfl, Nat.le_of_ble_eq_true rfl⟩ rfl rfl rfl s0_141 (Nat.le_of_ble_eq_true rfl) (by omega) rfl rfl (pm_zc _) (hq sc _ (by omega)) (fun r9 M8 hq => ?_)
          exact fr_iret (pc := 33) dX11_forced_33 (Or.inl rfl) hq
        · refine fr_iconst (pc := 22) dX11_forced_22 (by decide) ?_
          exact fr_iret (pc := 23) dX11_forced_23 (Or.inl rfl) hq
      · refine fr_aload_n (pc := 18) dX0_isCondition_18 rfl rfl ?_
        refine fr_getr (a := 2) (pc := 19) dX0_isCondition_19 rfl pf_0_9 s0_2 rfl rf_2_0 ?_
        refine fr_iload_n (pc := 22) dX0_isCondition_22 rfl rfl ?_
        refine fr_iaload (a := 3) (v := gI M 3 a1) (pc := 23) dX0_isCondition_23 rfl s0_3 hb3 rfl ?_
        refine fr_iconst (pc := 24) dX0_isCondition_24 (by decide) ?_
        refine fr_icm_ne (tg := 32) (pc := 25) dX0_isCondition_25 rfl hq (fun hc10 hq => ?_) (fun hc10 hq => ?_)
        · refine fr_iconst (pc := 28) dX0_isCondition_28 (by decide) ?_
          refine fr_goto (tg := 33) (pc := 29) dX0_isCondition_29 rfl ?_
          refine fr_iret (pc := 33) dX0_isCondition_33 (Or.inr (Or.inl ⟨rfl, Or.inr rfl⟩)) ?_
          refine fr_ifcF (tg := 22) (pc := 8) dX11_forced_8 rfl rfl ?_
          refine fr_aload_n (pc := 11) dX11_forced_11 rfl rfl ?_
          refine fr_getr (a := 0) (pc := 12) dX11_forced_12 rfl pf_11_16 s0_0 rfl rf_0_4 ?_
          refine fr_iload_n (pc := 15) dX11_forced_15 rfl rfl ?_
          refine fr_inVI (a := 2) (as := [(0, a1)]) (rest := []) (ls' := [(2, 2), (0, a1), (9, 0), (9, 0)]) (c1 := 0) (c2 := 0) (pc := 16) dX11_forced_16 pl_11_153 rfl ⟨Nat.le_of_ble_eq_true rfl, Nat.le_of_ble_eq_true rfl⟩ rfl rfl rfl s0_2 (Nat.le_of_ble_eq_true rfl) (by omega) rfl rfl (pm_zc _) (hq sc _ (by omega)) (fun r12 M11 hq => ?_)
          refine fr_ifc_eq (tg := 24) (pc := 19) dX11_forced_19 rfl hq (fun hc13 hq => ?_) (fun hc13 hq => ?_)
          · refine fr_aload_n (pc := 24) dX11_forced_24 rfl rfl ?_
            refine fr_getr (a := 0) (pc := 25) dX11_forced_25 rfl pf_11_102 s0_0 rfl rf_0_13 ?_
            refine fr_iload_n (pc := 28) dX11_forced_28 rfl rfl ?_
            refine fr_iload_n (pc := 29) dX11_forced_29 rfl rfl ?_
            refine fr_inVI (a := 141) (as := [(0, a1), (0, a2)]) (rest := []) (ls' := [(2, 141), (0, a1), (0, a2), (9, 0)]) (c1 := 0) (c2 := 0) (pc := 30) dX11_forced_30 pl_11_304 rfl ⟨Nat.le_of_ble_eq_true rfl, Nat.le_of_ble_eq_true rfl⟩ rfl rfl rfl s0_141 (Nat.le_of_ble_eq_true rfl) (by omega) rfl rfl (pm_zc _) (hq sc _ (by omega)) (fun r15 M14 hq => ?_)
            exact fr_iret (pc := 33) dX11_forced_33 (Or.inl rfl) hq
          · refine fr_iconst (pc := 22) dX11_forced_22 (by decide) ?_
            exact fr_iret (pc := 23) dX11_forced_23 (Or.inl rfl) hq
        · refine fr_iconst (pc := 32) dX0_isCondition_32 (by decide) ?_
          refine fr_iret (pc := 33) dX0_isCondition_33 (Or.inr (Or.inl ⟨rfl, Or.inl rfl⟩)) ?_
          refine fr_ifcT (tg := 22) (pc := 8) dX11_forced_8 rfl rfl ?_
          refine fr_iconst (pc := 22) dX11_forced_22 (by decide) ?_
          exact fr_iret (pc := 23) dX11_forced_23 (Or.inl rfl) hq
    · refine fr_iconst (pc := 16) dX0_hasNode_16 (by decide) ?_
      refine fr_iret (pc := 17) dX0_hasNode_17 (Or.inr (Or.inl ⟨rfl, Or.inl rfl⟩)) ?_
      refine fr_ifcT (tg := 32) (pc := 5) dX0_isCondition_5 rfl rfl ?_
      refine fr_iconst (pc := 32) dX0_isCondition_32 (by decide) ?_
      refine fr_iret (pc := 33) dX0_isCondition_33 (Or.inr (Or.inl ⟨rfl, Or.inl rfl⟩)) ?_
      refine fr_ifcT (tg := 22) (pc := 8) dX11_forced_8 rfl rfl ?_
      refine fr_iconst (pc := 22) dX11_forced_22 (by decide) ?_
      exact fr_iret (pc := 23) dX11_forced_23 (Or.inl rfl) hq
theorem k10_passingIfForced_r {a1 a2 : Int} {M : pm_M} {K : Int → pm_M → Prop} (hq : ((a2 = 0 ∨ a2 = 1) ∧ k1_countPassing 0 (upI (upI M 73 10 a1) 73 11 a2) (fun r3 M2 => K r3 (upI M2 73 10 (-1))))) : k10_passingIfForced a1 a2 M K := by
  intro sc d hd
  refine fr_aload_n (pc := 0) dX10_passingIfForced_0 rfl rfl ?_
  refine fr_getr (a := 141) (pc := 1) dX10_passingIfForced_1 rfl pf_10_19 s0_141 rfl rf_141_1 ?_
  refine fr_iload_n (pc := 4) dX10_passingIfForced_4 rfl rfl ?_
  refine fr_put (a := 73) (i := 10) (pc := 5) dX10_passingIfForced_5 rfl pf_10_70 rfl s0_73 rfl rfl nf_73_10 rfl ?_
  refine fr_aload_n (pc := 8) dX10_passingIfForced_8 rfl rfl ?_
  refine fr_getr (a := 141) (pc := 9) dX10_passingIfForced_9 rfl pf_10_19 s0_141 rfl rf_141_1 ?_
  refine fr_iload_n (pc := 12) dX10_passingIfForced_12 rfl rfl ?_
  obtain ⟨hz1, hq⟩ := hq
  refine fr_put (a := 73) (i := 11) (pc := 13) dX10_passingIfForced_13 rfl pf_10_73 rfl s0_73 (by rcases hz1 with h | h <;> rw [h] <;> rfl) rfl nf_73_11 rfl ?_
  refine fr_aload_n (pc := 16) dX10_passingIfForced_16 rfl rfl ?_
  refine fr_getr (a := 141) (pc := 17) dX10_passingIfForced_17 rfl pf_10_19 s0_141 rfl rf_141_1 ?_
  refine fr_iconst (pc := 20) dX10_passingIfForced_20 (by decide) ?_
  refine fr_inVI (a := 73) (as := [(0, 0)]) (rest := []) (ls' := [(2, 73), (0, 0), (9, 0), (9, 0)]) (c1 := 0) (c2 := 0) (pc := 21) dX10_passingIfForced_21 pl_10_77 rfl ⟨Nat.le_of_ble_eq_true rfl, Nat.le_of_ble_eq_true rfl⟩ rfl rfl rfl s0_73 (Nat.le_of_ble_eq_true rfl) (by omega) rfl rfl (pm_zc _) (hq sc _ (by omega)) (fun r3 M2 hq => ?_)
  refine fr_istore_n (ls2 := [(2, 141), (0, a1), (0, a2), (0, r3)]) (pc := 24) dX10_passingIfForced_24 rfl (Nat.le_of_ble_eq_true rfl) rfl ?_
  refine fr_aload_n (pc := 25) dX10_passingIfForced_25 rfl rfl ?_
  refine fr_getr (a := 141) (pc := 26) dX10_passingIfForced_26 rfl pf_10_19 s0_141 rfl rf_141_1 ?_
  refine fr_iconst (pc := 29) dX10_passingIfForced_29 (by decide) ?_
  refine fr_put (a := 73) (i := 10) (pc := 30) dX10_passingIfForced_30 rfl pf_10_70 rfl s0_73 rfl rfl nf_73_10 rfl ?_
  refine fr_iload_n (pc := 33) dX10_passingIfForced_33 rfl rfl ?_
  exact fr_iret (pc := 34) dX10_passingIfForced_34 (Or.inl rfl) hq
theorem k11_flip_r {a1 : Int} {M : pm_M} {K : Int → pm_M → Prop} (hq : k11_hasRun a1 M (fun r2 M1 => (if r2 = 0 then K (-1) M1 else ((0 ≤ a1 ∧ a1 < 16) ∧ (if gI M1 82 a1 = 0 then k10_mendingAsking a1 M1 (fun r7 M6 => K r7 M6) else K (-1) M1))))) : k11_flip a1 M K := by
  intro sc d hd
  refine fr_aload_n (pc := 0) dX11_flip_0 rfl rfl ?_
  refine fr_iload_n (pc := 1) dX11_flip_1 rfl rfl ?_
  refine fr_inVI (a := 0) (as := [(0, a1)]) (rest := []) (ls' := [(2, 0), (0, a1)]) (c1 := 0) (c2 := 0) (pc := 2) dX11_flip_2 pl_11_170 rfl ⟨Nat.le_of_ble_eq_true rfl, Nat.le_of_ble_eq_true rfl⟩ rfl rfl rfl s0_0 (Nat.le_of_ble_eq_true rfl) (by omega) rfl rfl (pm_zc _) (hq sc _ (by omega)) (fun r2 M1 hq => ?_)
  refine fr_ifc_eq (tg := 20) (pc := 5) dX11_flip_5 rfl hq (fun hc3 hq => ?_) (fun hc3 hq => ?_)
  · refine fr_iconst (pc := 20) dX11_flip_20 (by decide) ?_
    exact fr_iret (pc := 21) dX11_flip_21 (Or.inl rfl) hq
  · refine fr_aload_n (pc := 8) dX11_flip_8 rfl rfl ?_
    refine fr_getr (a := 0) (pc := 9) dX11_flip_9 rfl pf_11_68 s0_0 rfl rf_0_9 ?_
    refine fr_getr (a := 77) (pc := 12) dX11_flip_12 rfl pf_11_182 s0_77 rfl rf_77_7 ?_
    refine fr_iload_n (pc := 15) dX11_flip_15 rfl rfl ?_
    obtain ⟨hb4, hq⟩ := hq
    refine fr_baload (a := 82) (v := gI M1 82 a1) (pc := 16) dX11_flip_16 rfl s0_82 hb4 (Or.inr rfl) rfl ?_
    refine fr_ifc_eq (tg := 22) (pc := 17) dX11_flip_17 rfl hq (fun hc5 hq => ?_) (fun hc5 hq => ?_)
    · refine fr_aload_n (pc := 22) dX11_flip_22 rfl rfl ?_
      refine fr_getr (a := 0) (pc := 23) dX11_flip_23 rfl pf_11_102 s0_0 rfl rf_0_13 ?_
      refine fr_iload_n (pc := 26) dX11_flip_26 rfl rfl ?_
      refine fr_inVI (a := 141) (as := [(0, a1)]) (rest := []) (ls' := [(2, 141), (0, a1), (9, 0), (9, 0)]) (c1 := 0) (c2 := 0) (pc := 27) dX11_flip_27 pl_11_308 rfl ⟨Nat.le_of_ble_eq_true rfl, Nat.le_of_ble_eq_true rfl⟩ rfl rfl rfl s0_141 (Nat.le_of_ble_eq_true rfl) (by omega) rfl rfl (pm_zc _) (hq sc _ (by omega)) (fun r7 M6 hq => ?_)
      exact fr_iret (pc := 30) dX11_flip_30 (Or.inl rfl) hq
    · refine fr_iconst (pc := 20) dX11_flip_20 (by decide) ?_
      exact fr_iret (pc := 21) dX11_flip_21 (Or.inl rfl) hq
theorem k10_mendingAsking_r {a1 : Int} {M : pm_M} {K : Int → pm_M → Prop} (hq : k10_mendingAsking_5 a1 (-2) 0 M K) : k10_mendingAsking a1 M K := by
  intro sc d hd
  refine fr_bipush (pc := 0) dX10_mendingAsking_0 (by decide) ?_
  refine fr_istore_n (ls2 := [(2, 141), (0, a1), (0, (-2)), (9, 0)]) (pc := 2) dX10_mendingAsking_2 rfl (Nat.le_of_ble_eq_true rfl) rfl ?_
  refine fr_iconst (pc := 3) dX10_mendingAsking_3 (by decide) ?_
  refine fr_istore_n (ls2 := [(2, 141), (0, a1), (0, (-2)), (0, 0)]) (pc := 4) dX10_mendingAsking_4 rfl (Nat.le_of_ble_eq_true rfl) rfl ?_
  exact hq sc d hd
theorem k10_mendingAsking_5_r {l1 l2 l3 : Int} {M : pm_M} {K : Int → pm_M → Prop} (hq : ((0 ≤ l1 ∧ l1 < 16) ∧ (if l3 < gI M 81 l1 then (if l2 = (-2) then k1_passes l1 (upI M 73 12 l3) (fun r5 M4 => (if r5 = 0 then k10_mendingAsking_5 l1 l2 (w32 (l3 + 1)) M4 K else k10_mendingAsking_5 l1 l3 (w32 (l3 + 1)) M4 K)) else K l2 (upI M 73 12 (-1))) else K l2 (upI M 73 12 (-1))))) : k10_mendingAsking_5 l1 l2 l3 M K := by
  intro sc d hd
  refine fr_iload_n (pc := 5) dX10_mendingAsking_5 rfl rfl ?_
  refine fr_aload_n (pc := 6) dX10_mendingAsking_6 rfl rfl ?_
  refine fr_getr (a := 141) (pc := 7) dX10_mendingAsking_7 rfl pf_10_23 s0_141 rfl rf_141_2 ?_
  refine fr_getr (a := 77) (pc := 10) dX10_mendingAsking_10 rfl pf_10_81 s0_77 rfl rf_77_6 ?_
  refine fr_iload_n (pc := 13) dX10_mendingAsking_13 rfl rfl ?_
  obtain ⟨hb1, hq⟩ := hq
  refine fr_iaload (a := 81) (v := gI M 81 l1) (pc := 14) dX10_mendingAsking_14 rfl s0_81 hb1 rfl ?_
  refine fr_icm_ge (tg := 51) (pc := 15) dX10_mendingAsking_15 rfl hq (fun hc2 hq => ?_) (fun hc2 hq => ?_)
  · refine fr_iload_n (pc := 18) dX10_mendingAsking_18 rfl rfl ?_
    refine fr_bipush (pc := 19) dX10_mendingAsking_19 (by decide) ?_
    refine fr_icm_ne (tg := 51) (pc := 21) dX10_mendingAsking_21 rfl hq (fun hc3 hq => ?_) (fun hc3 hq => ?_)
    · refine fr_aload_n (pc := 24) dX10_mendingAsking_24 rfl rfl ?_
      refine fr_getr (a := 141) (pc := 25) dX10_mendingAsking_25 rfl pf_10_19 s0_141 rfl rf_141_1 ?_
      refine fr_iload_n (pc := 28) dX10_mendingAsking_28 rfl rfl ?_
      refine fr_put (a := 73) (i := 12) (pc := 29) dX10_mendingAsking_29 rfl pf_10_84 rfl s0_73 rfl rfl nf_73_12 rfl ?_
      refine fr_aload_n (pc := 32) dX10_mendingAsking_32 rfl rfl ?_
      refine fr_getr (a := 141) (pc := 33) dX10_mendingAsking_33 rfl pf_10_19 s0_141 rfl rf_141_1 ?_
      refine fr_iload_n (pc := 36) dX10_mendingAsking_36 rfl rfl ?_
      refine fr_inVI (a := 73) (as := [(0, l1)]) (rest := []) (ls' := [(2, 73), (0, l1), (9, 0), (9, 0)]) (c1 := 0) (c2 := 0) (pc := 37) dX10_mendingAsking_37 pl_10_87 rfl ⟨Nat.le_of_ble_eq_true rfl, Nat.le_of_ble_eq_true rfl⟩ rfl rfl rfl s0_73 (Nat.le_of_ble_eq_true rfl) (by omega) rfl rfl (pm_zc _) (hq sc _ (by omega)) (fun r5 M4 hq => ?_)
      refine fr_ifc_eq (tg := 45) (pc := 40) dX10_mendingAsking_40 rfl hq (fun hc6 hq => ?_) (fun hc6 hq => ?_)
      · refine fr_iinc (z := w32 (l3 + 1)) (ls2 := [(2, 141), (0, l1), (0, l2), (0, w32 (l3 + 1))]) (pc := 45) dX10_mendingAsking_45 (Nat.le_of_ble_eq_true rfl) rfl rfl rfl ?_
        refine fr_goto (tg := 5) (pc := 48) dX10_mendingAsking_48 rfl ?_
        exact hq sc d hd
      · refine fr_iload_n (pc := 43) dX10_mendingAsking_43 rfl rfl ?_
        refine fr_istore_n (ls2 := [(2, 141), (0, l1), (0, l3), (0, l3)]) (pc := 44) dX10_mendingAsking_44 rfl (Nat.le_of_ble_eq_true rfl) rfl ?_
        refine fr_iinc (z := w32 (l3 + 1)) (ls2 := [(2, 141), (0, l1), (0, l3), (0, w32 (l3 + 1))]) (pc := 45) dX10_mendingAsking_45 (Nat.le_of_ble_eq_true rfl) rfl rfl rfl ?_
        refine fr_goto (tg := 5) (pc := 48) dX10_mendingAsking_48 rfl ?_
        exact hq sc d hd
    · refine fr_aload_n (pc := 51) dX10_mendingAsking_51 rfl rfl ?_
      refine fr_getr (a := 141) (pc := 52) dX10_mendingAsking_52 rfl pf_10_19 s0_141 rfl rf_141_1 ?_
      refine fr_iconst (pc := 55) dX10_mendingAsking_55 (by decide) ?_
      refine fr_put (a := 73) (i := 12) (pc := 56) dX10_mendingAsking_56 rfl pf_10_84 rfl s0_73 rfl rfl nf_73_12 rfl ?_
      refine fr_iload_n (pc := 59) dX10_mendingAsking_59 rfl rfl ?_
      exact fr_iret (pc := 60) dX10_mendingAsking_60 (Or.inl rfl) hq
  · refine fr_aload_n (pc := 51) dX10_mendingAsking_51 rfl rfl ?_
    refine fr_getr (a := 141) (pc := 52) dX10_mendingAsking_52 rfl pf_10_19 s0_141 rfl rf_141_1 ?_
    refine fr_iconst (pc := 55) dX10_mendingAsking_55 (by decide) ?_
    refine fr_put (a := 73) (i := 12) (pc := 56) dX10_mendingAsking_56 rfl pf_10_84 rfl s0_73 rfl rfl nf_73_12 rfl ?_
    refine fr_iload_n (pc := 59) dX10_mendingAsking_59 rfl rfl ?_
    exact fr_iret (pc := 60) dX10_mendingAsking_60 (Or.inl rfl) hq
theorem k11_take_r {a1 a2 : Int} {M : pm_M} {K : Int → pm_M → Prop} (hq : k0_hasChange a1 a2 M (fun r2 M1 => (if r2 = 0 then K (-1) M1 else (if gI M1 2 17 < 20 then k0_keepChange a1 a2 M1 (fun M5 => K (gI M5 2 17) (upI (upI (upI (upI M5 0 14 0) 132 11 0) 138 14 0) 141 3 (-1))) else K (-1) M1)))) : k11_take a1 a2 M K := by
  intro sc d hd
  refine fr_aload_n (pc := 0) dX11_take_0 rfl rfl ?_
  refine fr_getr (a := 0) (pc := 1) dX11_take_1 rfl pf_11_16 s0_0 rfl rf_0_4 ?_
  refine fr_iload_n (pc := 4) dX11_take_4 rfl rfl ?_
  refine fr_iload_n (pc := 5) dX11_take_5 rfl rfl ?_
  refine fr_inVI (a := 2) (as := [(0, a1), (0, a2)]) (rest := []) (ls' := [(2, 2), (0, a1), (0, a2)]) (c1 := 0) (c2 := 0) (pc := 6) dX11_take_6 pl_11_224 rfl ⟨Nat.le_of_ble_eq_true rfl, Nat.le_of_ble_eq_true rfl⟩ rfl rfl rfl s0_2 (Nat.le_of_ble_eq_true rfl) (by omega) rfl rfl (pm_zc _) (hq sc _ (by omega)) (fun r2 M1 hq => ?_)
  refine fr_ifc_eq (tg := 24) (pc := 9) dX11_take_9 rfl hq (fun hc3 hq => ?_) (fun hc3 hq => ?_)
  · refine fr_iconst (pc := 24) dX11_take_24 (by decide) ?_
    exact fr_iret (pc := 25) dX11_take_25 (Or.inl rfl) hq
  · refine fr_aload_n (pc := 12) dX11_take_12 rfl rfl ?_
    refine fr_getr (a := 0) (pc := 13) dX11_take_13 rfl pf_11_16 s0_0 rfl rf_0_4 ?_
    refine fr_getf (a := 2) (i := 17) (v := gI M1 2 17) (t := 0) (pc := 16) dX11_take_16 rfl pf_11_311 rfl s0_2 rfl rfl ?_
    refine fr_bipush (pc := 19) dX11_take_19 (by decide) ?_
    refine fr_icm_lt (tg := 26) (pc := 21) dX11_take_21 rfl hq (fun hc4 hq => ?_) (fun hc4 hq => ?_)
    · refine fr_aload_n (pc := 26) dX11_take_26 rfl rfl ?_
      refine fr_getr (a := 0) (pc := 27) dX11_take_27 rfl pf_11_16 s0_0 rfl rf_0_4 ?_
      refine fr_iload_n (pc := 30) dX11_take_30 rfl rfl ?_
      refine fr_iload_n (pc := 31) dX11_take_31 rfl rfl ?_
      refine fr_inVV (a := 2) (as := [(0, a1), (0, a2)]) (rest := []) (ls' := [(2, 2), (0, a1), (0, a2)]) (c1 := 0) (c2 := 0) (pc := 32) dX11_take_32 pl_11_314 rfl ⟨Nat.le_of_ble_eq_true rfl, Nat.le_of_ble_eq_true rfl⟩ rfl rfl rfl s0_2 (Nat.le_of_ble_eq_true rfl) (by omega) rfl rfl (pm_zc _) (hq sc _ (by omega)) (fun M5 hq => ?_)
      refine fr_aload_n (pc := 35) dX11_take_35 rfl rfl ?_
      refine fr_inVV (a := 0) (as := []) (rest := []) (ls' := [(2, 0)]) (c1 := 0) (c2 := 0) (pc := 36) dX11_take_36 pl_11_118 rfl ⟨Nat.le_of_ble_eq_true rfl, Nat.le_of_ble_eq_true rfl⟩ rfl rfl rfl s0_0 (Nat.le_of_ble_eq_true rfl) (by omega) rfl rfl (pm_zc _) ?_ (fun M' h => h)
      refine fr_aload_n (pc := 0) dX11_forgetAnswers_0 rfl rfl ?_
      refine fr_iconst (pc := 1) dX11_forgetAnswers_1 (by decide) ?_
      refine fr_put (a := 0) (i := 14) (pc := 2) dX11_forgetAnswers_2 rfl pf_11_328 rfl s0_0 rfl rfl nf_0_14 rfl ?_
      refine fr_aload_n (pc := 5) dX11_forgetAnswers_5 rfl rfl ?_
      refine fr_getr (a := 0) (pc := 6) dX11_forgetAnswers_6 rfl pf_11_86 s0_0 rfl rf_0_11 ?_
      refine fr_iconst (pc := 9) dX11_forgetAnswers_9 (by decide) ?_
      refine fr_put (a := 132) (i := 11) (pc := 10) dX11_forgetAnswers_10 rfl pf_11_337 rfl s0_132 rfl rfl nf_132_11 rfl ?_
      refine fr_aload_n (pc := 13) dX11_forgetAnswers_13 rfl rfl ?_
      refine fr_getr (a := 0) (pc := 14) dX11_forgetAnswers_14 rfl pf_11_93 s0_0 rfl rf_0_12 ?_
      refine fr_iconst (pc := 17) dX11_forgetAnswers_17 (by decide) ?_
      refine fr_put (a := 138) (i := 14) (pc := 18) dX11_forgetAnswers_18 rfl pf_11_340 rfl s0_138 rfl rfl nf_138_14 rfl ?_
      refine fr_aload_n (pc := 21) dX11_forgetAnswers_21 rfl rfl ?_
      refine fr_getr (a := 0) (pc := 22) dX11_forgetAnswers_22 rfl pf_11_102 s0_0 rfl rf_0_13 ?_
      refine fr_iconst (pc := 25) dX11_forgetAnswers_25 (by decide) ?_
      refine fr_put (a := 141) (i := 3) (pc := 26) dX11_forgetAnswers_26 rfl pf_11_341 rfl s0_141 rfl rfl nf_141_3 rfl ?_
      refine fr_vret (pc := 29) dX11_forgetAnswers_29 rfl ?_
      refine fr_aload_n (pc := 39) dX11_take_39 rfl rfl ?_
      refine fr_getr (a := 0) (pc := 40) dX11_take_40 rfl pf_11_16 s0_0 rfl rf_0_4 ?_
      refine fr_getf (a := 2) (i := 17) (v := gI M5 2 17) (t := 0) (pc := 43) dX11_take_43 rfl pf_11_311 rfl s0_2 rfl ((gI_ne _ _ _ _ (by decide)).trans ((gI_ne _ _ _ _ (by decide)).trans ((gI_ne _ _ _ _ (by decide)).trans (gI_ne _ _ _ _ (by decide))))) ?_
      exact fr_iret (pc := 46) dX11_take_46 (Or.inl rfl) hq
    · refine fr_iconst (pc := 24) dX11_take_24 (by decide) ?_
      exact fr_iret (pc := 25) dX11_take_25 (Or.inl rfl) hq
theorem k0_keepChange_r {a1 a2 : Int} {M : pm_M} {K : pm_M → Prop} (hq : (if gI M 2 17 < 20 then ((0 ≤ gI M 2 17 ∧ gI M 2 17 < 20) ∧ ((0 ≤ a1 ∧ a1 < 60) ∧ k0_apply a1 a2 (upI (upI (upI (upI M 15 (gI M 2 17) a1) 16 (gI M 2 17) (gI M 4 a1)) 17 (gI M 2 17) (gI M 5 a1)) 2 17 (w32 ((gI M 2 17) + 1))) (fun M4 => K M4))) else K M)) : k0_keepChange a1 a2 M K := by
  intro sc d hd
  refine fr_aload_n (pc := 0) dX0_keepChange_0 rfl rfl ?_
  refine fr_getf (a := 2) (i := 17) (v := gI M 2 17) (t := 0) (pc := 1) dX0_keepChange_1 rfl pf_0_64 rfl s0_2 rfl rfl ?_
  refine fr_bipush (pc := 4) dX0_keepChange_4 (by decide) ?_
  refine fr_icm_ge (tg := 65) (pc := 6) dX0_keepChange_6 rfl hq (fun hc1 hq => ?_) (fun hc1 hq => ?_)
  · refine fr_aload_n (pc := 9) dX0_keepChange_9 rfl rfl ?_
    refine fr_getr (a := 2) (pc := 10) dX0_keepChange_10 rfl pf_0_48 s0_2 rfl rf_2_12 ?_
    refine fr_aload_n (pc := 13) dX0_keepChange_13 rfl rfl ?_
    refine fr_getf (a := 2) (i := 17) (v := gI M 2 17) (t := 0) (pc := 14) dX0_keepChange_14 rfl pf_0_64 rfl s0_2 rfl rfl ?_
    refine fr_iload_n (pc := 17) dX0_keepChange_17 rfl rfl ?_
    obtain ⟨hb2, hq⟩ := hq
    refine fr_iastore (a := 15) (pc := 18) dX0_keepChange_18 rfl s0_15 hb2 nr_15 ?_
    refine fr_aload_n (pc := 19) dX0_keepChange_19 rfl rfl ?_
    refine fr_getr (a := 2) (pc := 20) dX0_keepChange_20 rfl pf_0_51 s0_2 rfl rf_2_13 ?_
    refine fr_aload_n (pc := 23) dX0_keepChange_23 rfl rfl ?_
    refine fr_getf (a := 2) (i := 17) (v := gI M 2 17) (t := 0) (pc := 24) dX0_keepChange_24 rfl pf_0_64 rfl s0_2 rfl (gI_ne _ _ _ _ (by decide)) ?_
    refine fr_aload_n (pc := 27) dX0_keepChange_27 rfl rfl ?_
    refine fr_getr (a := 2) (pc := 28) dX0_keepChange_28 rfl pf_0_15 s0_2 rfl rf_2_1 ?_
    refine fr_iload_n (pc := 31) dX0_keepChange_31 rfl rfl ?_
    obtain ⟨hb3, hq⟩ := hq
    refine fr_iaload (a := 4) (v := gI M 4 a1) (pc := 32) dX0_keepChange_32 rfl s0_4 hb3 (gI_ne _ _ _ _ (by decide)) ?_
    refine fr_iastore (a := 16) (pc := 33) dX0_keepChange_33 rfl s0_16 hb2 nr_16 ?_
    refine fr_aload_n (pc := 34) dX0_keepChange_34 rfl rfl ?_
    refine fr_getr (a := 2) (pc := 35) dX0_keepChange_35 rfl pf_0_54 s0_2 rfl rf_2_14 ?_
    refine fr_aload_n (pc := 38) dX0_keepChange_38 rfl rfl ?_
    refine fr_getf (a := 2) (i := 17) (v := gI M 2 17) (t := 0) (pc := 39) dX0_keepChange_39 rfl pf_0_64 rfl s0_2 rfl ((gI_ne _ _ _ _ (by decide)).trans (gI_ne _ _ _ _ (by decide))) ?_
    refine fr_aload_n (pc := 42) dX0_keepChange_42 rfl rfl ?_
    refine fr_getr (a := 2) (pc := 43) dX0_keepChange_43 rfl pf_0_18 s0_2 rfl rf_2_2 ?_
    refine fr_iload_n (pc := 46) dX0_keepChange_46 rfl rfl ?_
    refine fr_iaload (a := 5) (v := gI M 5 a1) (pc := 47) dX0_keepChange_47 rfl s0_5 hb3 ((gI_ne _ _ _ _ (by decide)).trans (gI_ne _ _ _ _ (by decide))) ?_
    refine fr_iastore (a := 17) (pc := 48) dX0_keepChange_48 rfl s0_17 hb2 nr_17 ?_
    refine fr_aload_n (pc := 49) dX0_keepChange_49 rfl rfl ?_
    refine fr_dup (pc := 50) dX0_keepChange_50 pm_t2 ?_
    refine fr_getf (a := 2) (i := 17) (v := gI M 2 17) (t := 0) (pc := 51) dX0_keepChange_51 rfl pf_0_64 rfl s0_2 rfl ((gI_ne _ _ _ _ (by decide)).trans ((gI_ne _ _ _ _ (by decide)).trans (gI_ne _ _ _ _ (by decide)))) ?_
    refine fr_iconst (pc := 54) dX0_keepChange_54 (by decide) ?_
    refine fr_iadd (z := w32 ((gI M 2 17) + 1)) (pc := 55) dX0_keepChange_55 rfl ?_
    refine fr_put (a := 2) (i := 17) (pc := 56) dX0_keepChange_56 rfl pf_0_64 rfl s0_2 rfl rfl nf_2_17 rfl ?_
    refine fr_aload_n (pc := 59) dX0_keepChange_59 rfl rfl ?_
    refine fr_iload_n (pc := 60) dX0_keepChange_60 rfl rfl ?_
    refine fr_iload_n (pc := 61) dX0_keepChange_61 rfl rfl ?_
    refine fr_inVV (a := 2) (as := [(0, a1), (0, a2)]) (rest := []) (ls' := [(2, 2), (0, a1), (0, a2)]) (c1 := 0) (c2 := 0) (pc := 62) dX0_keepChange_62 pl_0_131 rfl ⟨Nat.le_of_ble_eq_true rfl, Nat.le_of_ble_eq_true rfl⟩ rfl rfl rfl s0_2 (Nat.le_of_ble_eq_true rfl) (by omega) rfl rfl (pm_zc _) (hq sc _ (by omega)) (fun M4 hq => ?_)
    exact fr_vret (pc := 65) dX0_keepChange_65 rfl hq
  · exact fr_vret (pc := 65) dX0_keepChange_65 rfl hq
theorem k11_undo_r {M : pm_M} {K : Int → pm_M → Prop} (hq : (if gI M 2 17 = 0 then K (-1) M else k0_dropLatest M (fun M2 => K (gI M2 2 17) (upI (upI (upI (upI M2 0 14 0) 132 11 0) 138 14 0) 141 3 (-1))))) : k11_undo M K := by
  intro sc d hd
  refine fr_aload_n (pc := 0) dX11_undo_0 rfl rfl ?_
  refine fr_getr (a := 0) (pc := 1) dX11_undo_1 rfl pf_11_16 s0_0 rfl rf_0_4 ?_
  refine fr_getf (a := 2) (i := 17) (v := gI M 2 17) (t := 0) (pc := 4) dX11_undo_4 rfl pf_11_311 rfl s0_2 rfl rfl ?_
  refine fr_ifc_ne (tg := 12) (pc := 7) dX11_undo_7 rfl hq (fun hc1 hq => ?_) (fun hc1 hq => ?_)
  · refine fr_iconst (pc := 10) dX11_undo_10 (by decide) ?_
    exact fr_iret (pc := 11) dX11_undo_11 (Or.inl rfl) hq
  · refine fr_aload_n (pc := 12) dX11_undo_12 rfl rfl ?_
    refine fr_getr (a := 0) (pc := 13) dX11_undo_13 rfl pf_11_16 s0_0 rfl rf_0_4 ?_
    refine fr_inVV (a := 2) (as := []) (rest := []) (ls' := [(2, 2)]) (c1 := 0) (c2 := 0) (pc := 16) dX11_undo_16 pl_11_318 rfl ⟨Nat.le_of_ble_eq_true rfl, Nat.le_of_ble_eq_true rfl⟩ rfl rfl rfl s0_2 (Nat.le_of_ble_eq_true rfl) (by omega) rfl rfl (pm_zc _) (hq sc _ (by omega)) (fun M2 hq => ?_)
    refine fr_aload_n (pc := 19) dX11_undo_19 rfl rfl ?_
    refine fr_inVV (a := 0) (as := []) (rest := []) (ls' := [(2, 0)]) (c1 := 0) (c2 := 0) (pc := 20) dX11_undo_20 pl_11_118 rfl ⟨Nat.le_of_ble_eq_true rfl, Nat.le_of_ble_eq_true rfl⟩ rfl rfl rfl s0_0 (Nat.le_of_ble_eq_true rfl) (by omega) rfl rfl (pm_zc _) ?_ (fun M' h => h)
    refine fr_aload_n (pc := 0) dX11_forgetAnswers_0 rfl rfl ?_
    refine fr_iconst (pc := 1) dX11_forgetAnswers_1 (by decide) ?_
    refine fr_put (a := 0) (i := 14) (pc := 2) dX11_forgetAnswers_2 rfl pf_11_328 rfl s0_0 rfl rfl nf_0_14 rfl ?_
    refine fr_aload_n (pc := 5) dX11_forgetAnswers_5 rfl rfl ?_
    refine fr_getr (a := 0) (pc := 6) dX11_forgetAnswers_6 rfl pf_11_86 s0_0 rfl rf_0_11 ?_
    refine fr_iconst (pc := 9) dX11_forgetAnswers_9 (by decide) ?_
    refine fr_put (a := 132) (i := 11) (pc := 10) dX11_forgetAnswers_10 rfl pf_11_337 rfl s0_132 rfl rfl nf_132_11 rfl ?_
    refine fr_aload_n (pc := 13) dX11_forgetAnswers_13 rfl rfl ?_
    refine fr_getr (a := 0) (pc := 14) dX11_forgetAnswers_14 rfl pf_11_93 s0_0 rfl rf_0_12 ?_
    refine fr_iconst (pc := 17) dX11_forgetAnswers_17 (by decide) ?_
    refine fr_put (a := 138) (i := 14) (pc := 18) dX11_forgetAnswers_18 rfl pf_11_340 rfl s0_138 rfl rfl nf_138_14 rfl ?_
    refine fr_aload_n (pc := 21) dX11_forgetAnswers_21 rfl rfl ?_
    refine fr_getr (a := 0) (pc := 22) dX11_forgetAnswers_22 rfl pf_11_102 s0_0 rfl rf_0_13 ?_
    refine fr_iconst (pc := 25) dX11_forgetAnswers_25 (by decide) ?_
    refine fr_put (a := 141) (i := 3) (pc := 26) dX11_forgetAnswers_26 rfl pf_11_341 rfl s0_141 rfl rfl nf_141_3 rfl ?_
    refine fr_vret (pc := 29) dX11_forgetAnswers_29 rfl ?_
    refine fr_aload_n (pc := 23) dX11_undo_23 rfl rfl ?_
    refine fr_getr (a := 0) (pc := 24) dX11_undo_24 rfl pf_11_16 s0_0 rfl rf_0_4 ?_
    refine fr_getf (a := 2) (i := 17) (v := gI M2 2 17) (t := 0) (pc := 27) dX11_undo_27 rfl pf_11_311 rfl s0_2 rfl ((gI_ne _ _ _ _ (by decide)).trans ((gI_ne _ _ _ _ (by decide)).trans ((gI_ne _ _ _ _ (by decide)).trans (gI_ne _ _ _ _ (by decide))))) ?_
    exact fr_iret (pc := 30) dX11_undo_30 (Or.inl rfl) hq
theorem k0_dropLatest_r {M : pm_M} {K : pm_M → Prop} (hq : (if gI M 2 17 ≤ 0 then K M else ((0 ≤ w32 ((gI M 2 17) - 1) ∧ w32 ((gI M 2 17) - 1) < 20) ∧ ((0 ≤ gI M 15 (w32 ((gI M 2 17) - 1)) ∧ gI M 15 (w32 ((gI M 2 17) - 1)) < 60) ∧ K (upI (upI (upI M 2 17 (w32 ((gI M 2 17) - 1))) 4 (gI M 15 (w32 ((gI M 2 17) - 1))) (gI M 16 (w32 ((gI M 2 17) - 1)))) 5 (gI M 15 (w32 ((gI M 2 17) - 1))) (gI M 17 (w32 ((gI M 2 17) - 1)))))))) : k0_dropLatest M K := by
  intro sc d hd
  refine fr_aload_n (pc := 0) dX0_dropLatest_0 rfl rfl ?_
  refine fr_getf (a := 2) (i := 17) (v := gI M 2 17) (t := 0) (pc := 1) dX0_dropLatest_1 rfl pf_0_64 rfl s0_2 rfl rfl ?_
  refine fr_ifc_le (tg := 48) (pc := 4) dX0_dropLatest_4 rfl hq (fun hc1 hq => ?_) (fun hc1 hq => ?_)
  · exact fr_vret (pc := 48) dX0_dropLatest_48 rfl hq
  · refine fr_aload_n (pc := 7) dX0_dropLatest_7 rfl rfl ?_
    refine fr_dup (pc := 8) dX0_dropLatest_8 pm_t2 ?_
    refine fr_getf (a := 2) (i := 17) (v := gI M 2 17) (t := 0) (pc := 9) dX0_dropLatest_9 rfl pf_0_64 rfl s0_2 rfl rfl ?_
    refine fr_iconst (pc := 12) dX0_dropLatest_12 (by decide) ?_
    refine fr_isub (z := w32 ((gI M 2 17) - 1)) (pc := 13) dX0_dropLatest_13 rfl ?_
    refine fr_put (a := 2) (i := 17) (pc := 14) dX0_dropLatest_14 rfl pf_0_64 rfl s0_2 rfl rfl nf_2_17 rfl ?_
    refine fr_aload_n (pc := 17) dX0_dropLatest_17 rfl rfl ?_
    refine fr_aload_n (pc := 18) dX0_dropLatest_18 rfl rfl ?_
    refine fr_getr (a := 2) (pc := 19) dX0_dropLatest_19 rfl pf_0_48 s0_2 rfl rf_2_12 ?_
    refine fr_aload_n (pc := 22) dX0_dropLatest_22 rfl rfl ?_
    refine fr_getf (a := 2) (i := 17) (v := w32 ((gI M 2 17) - 1)) (t := 0) (pc := 23) dX0_dropLatest_23 rfl pf_0_64 rfl s0_2 rfl (gI_eq _ _ _ _) ?_
    obtain ⟨hb2, hq⟩ := hq
    refine fr_iaload (a := 15) (v := gI M 15 (w32 ((gI M 2 17) - 1))) (pc := 26) dX0_dropLatest_26 rfl s0_15 hb2 (gI_ne _ _ _ _ (by decide)) ?_
    refine fr_aload_n (pc := 27) dX0_dropLatest_27 rfl rfl ?_
    refine fr_getr (a := 2) (pc := 28) dX0_dropLatest_28 rfl pf_0_51 s0_2 rfl rf_2_13 ?_
    refine fr_aload_n (pc := 31) dX0_dropLatest_31 rfl rfl ?_
    refine fr_getf (a := 2) (i := 17) (v := w32 ((gI M 2 17) - 1)) (t := 0) (pc := 32) dX0_dropLatest_32 rfl pf_0_64 rfl s0_2 rfl (gI_eq _ _ _ _) ?_
    refine fr_iaload (a := 16) (v := gI M 16 (w32 ((gI M 2 17) - 1))) (pc := 35) dX0_dropLatest_35 rfl s0_16 hb2 (gI_ne _ _ _ _ (by decide)) ?_
    refine fr_aload_n (pc := 36) dX0_dropLatest_36 rfl rfl ?_
    refine fr_getr (a := 2) (pc := 37) dX0_dropLatest_37 rfl pf_0_54 s0_2 rfl rf_2_14 ?_
    refine fr_aload_n (pc := 40) dX0_dropLatest_40 rfl rfl ?_
    refine fr_getf (a := 2) (i := 17) (v := w32 ((gI M 2 17) - 1)) (t := 0) (pc := 41) dX0_dropLatest_41 rfl pf_0_64 rfl s0_2 rfl (gI_eq _ _ _ _) ?_
    refine fr_iaload (a := 17) (v := gI M 17 (w32 ((gI M 2 17) - 1))) (pc := 44) dX0_dropLatest_44 rfl s0_17 hb2 (gI_ne _ _ _ _ (by decide)) ?_
    refine fr_inVV (a := 2) (as := [(0, gI M 15 (w32 ((gI M 2 17) - 1))), (0, gI M 16 (w32 ((gI M 2 17) - 1))), (0, gI M 17 (w32 ((gI M 2 17) - 1)))]) (rest := []) (ls' := [(2, 2), (0, gI M 15 (w32 ((gI M 2 17) - 1))), (0, gI M 16 (w32 ((gI M 2 17) - 1))), (0, gI M 17 (w32 ((gI M 2 17) - 1)))]) (c1 := 0) (c2 := 0) (pc := 45) dX0_dropLatest_45 pl_0_134 rfl ⟨Nat.le_of_ble_eq_true rfl, Nat.le_of_ble_eq_true rfl⟩ rfl rfl rfl s0_2 (Nat.le_of_ble_eq_true rfl) (by omega) rfl rfl (pm_zc _) ?_ (fun M' h => h)
    refine fr_aload_n (pc := 0) dX0_restore_0 rfl rfl ?_
    refine fr_getr (a := 2) (pc := 1) dX0_restore_1 rfl pf_0_15 s0_2 rfl rf_2_1 ?_
    refine fr_iload_n (pc := 4) dX0_restore_4 rfl rfl ?_
    refine fr_iload_n (pc := 5) dX0_restore_5 rfl rfl ?_
    obtain ⟨hb3, hq⟩ := hq
    refine fr_iastore (a := 4) (pc := 6) dX0_restore_6 rfl s0_4 hb3 nr_4 ?_
    refine fr_aload_n (pc := 7) dX0_restore_7 rfl rfl ?_
    refine fr_getr (a := 2) (pc := 8) dX0_restore_8 rfl pf_0_18 s0_2 rfl rf_2_2 ?_
    refine fr_iload_n (pc := 11) dX0_restore_11 rfl rfl ?_
    refine fr_iload_n (pc := 12) dX0_restore_12 rfl rfl ?_
    refine fr_iastore (a := 5) (pc := 13) dX0_restore_13 rfl s0_5 hb3 nr_5 ?_
    refine fr_vret (pc := 14) dX0_restore_14 rfl ?_
    exact fr_vret (pc := 48) dX0_dropLatest_48 rfl hq
theorem k11_count_r {a1 : Int} {M : pm_M} {K : Int → pm_M → Prop} (hq : (if a1 = 0 then K (gI M 2 15) M else (if a1 = 1 then K (gI M 2 16) M else (if a1 = 2 then K (gI M 18 1) M else (if a1 = 3 then K (gI M 18 2) M else (if a1 = 4 then k11_learnRuns M (fun M6 => K (gI M6 77 10) M6) else (if a1 = 5 then k11_learnRuns M (fun M9 => K (gI M9 77 12) M9) else (if a1 = 6 then k0_variableCount M (fun r13 M12 => K r13 M12) else (if a1 = 7 then K (gI M 2 17) M else (if a1 = 8 then K (gI M 0 1) M else (if a1 = 9 then k0_allChanges M (fun r18 M17 => K r18 M17) else K (-1) M))))))))))) : k11_count a1 M K := by
  intro sc d hd
  refine fr_iload_n (pc := 0) dX11_count_0 rfl rfl ?_
  refine pm_ite hq (fun hc1 hq => ?_) (fun hc1 hq => ?_)
  · refine fr_tabV (tg := 56) (off := 55) (v := 0) (pc := 1) dX11_count_1 hc1 (by decide) rfl rfl ?_
    refine fr_aload_n (pc := 56) dX11_count_56 rfl rfl ?_
    refine fr_getr (a := 0) (pc := 57) dX11_count_57 rfl pf_11_16 s0_0 rfl rf_0_4 ?_
    refine fr_getf (a := 2) (i := 15) (v := gI M 2 15) (t := 0) (pc := 60) dX11_count_60 rfl pf_11_121 rfl s0_2 rfl rfl ?_
    exact fr_iret (pc := 63) dX11_count_63 (Or.inl rfl) hq
  · refine pm_ite hq (fun hc2 hq => ?_) (fun hc2 hq => ?_)
    · refine fr_tabV (tg := 64) (off := 63) (v := 1) (pc := 1) dX11_count_1 hc2 (by decide) rfl rfl ?_
      refine fr_aload_n (pc := 64) dX11_count_64 rfl rfl ?_
      refine fr_getr (a := 0) (pc := 65) dX11_count_65 rfl pf_11_16 s0_0 rfl rf_0_4 ?_
      refine fr_getf (a := 2) (i := 16) (v := gI M 2 16) (t := 0) (pc := 68) dX11_count_68 rfl pf_11_215 rfl s0_2 rfl rfl ?_
      exact fr_iret (pc := 71) dX11_count_71 (Or.inl rfl) hq
    · refine pm_ite hq (fun hc3 hq => ?_) (fun hc3 hq => ?_)
      · refine fr_tabV (tg := 72) (off := 71) (v := 2) (pc := 1) dX11_count_1 hc3 (by decide) rfl rfl ?_
        refine fr_aload_n (pc := 72) dX11_count_72 rfl rfl ?_
        refine fr_getr (a := 0) (pc := 73) dX11_count_73 rfl pf_11_23 s0_0 rfl rf_0_5 ?_
        refine fr_getf (a := 18) (i := 1) (v := gI M 18 1) (t := 0) (pc := 76) dX11_count_76 rfl pf_11_127 rfl s0_18 rfl rfl ?_
        exact fr_iret (pc := 79) dX11_count_79 (Or.inl rfl) hq
      · refine pm_ite hq (fun hc4 hq => ?_) (fun hc4 hq => ?_)
        · refine fr_tabV (tg := 80) (off := 79) (v := 3) (pc := 1) dX11_count_1 hc4 (by decide) rfl rfl ?_
          refine fr_aload_n (pc := 80) dX11_count_80 rfl rfl ?_
          refine fr_getr (a := 0) (pc := 81) dX11_count_81 rfl pf_11_23 s0_0 rfl rf_0_5 ?_
          refine fr_getf (a := 18) (i := 2) (v := gI M 18 2) (t := 0) (pc := 84) dX11_count_84 rfl pf_11_255 rfl s0_18 rfl rfl ?_
          exact fr_iret (pc := 87) dX11_count_87 (Or.inl rfl) hq
        · refine pm_ite hq (fun hc5 hq => ?_) (fun hc5 hq => ?_)
          · refine fr_tabV (tg := 88) (off := 87) (v := 4) (pc := 1) dX11_count_1 hc5 (by decide) rfl rfl ?_
            refine fr_aload_n (pc := 88) dX11_count_88 rfl rfl ?_
            refine fr_inVV (a := 0) (as := []) (rest := []) (ls' := [(2, 0)]) (c1 := 0) (c2 := 0) (pc := 89) dX11_count_89 pl_11_195 rfl ⟨Nat.le_of_ble_eq_true rfl, Nat.le_of_ble_eq_true rfl⟩ rfl rfl rfl s0_0 (Nat.le_of_ble_eq_true rfl) (by omega) rfl rfl (pm_zc _) (hq sc _ (by omega)) (fun M6 hq => ?_)
            refine fr_aload_n (pc := 92) dX11_count_92 rfl rfl ?_
            refine fr_getr (a := 0) (pc := 93) dX11_count_93 rfl pf_11_68 s0_0 rfl rf_0_9 ?_
            refine fr_getf (a := 77) (i := 10) (v := gI M6 77 10) (t := 0) (pc := 96) dX11_count_96 rfl pf_11_206 rfl s0_77 rfl rfl ?_
            exact fr_iret (pc := 99) dX11_count_99 (Or.inl rfl) hq
          · refine pm_ite hq (fun hc8 hq => ?_) (fun hc8 hq => ?_)
            · refine fr_tabV (tg := 100) (off := 99) (v := 5) (pc := 1) dX11_count_1 hc8 (by decide) rfl rfl ?_
              refine fr_aload_n (pc := 100) dX11_count_100 rfl rfl ?_
              refine fr_inVV (a := 0) (as := []) (rest := []) (ls' := [(2, 0)]) (c1 := 0) (c2 := 0) (pc := 101) dX11_count_101 pl_11_195 rfl ⟨Nat.le_of_ble_eq_true rfl, Nat.le_of_ble_eq_true rfl⟩ rfl rfl rfl s0_0 (Nat.le_of_ble_eq_true rfl) (by omega) rfl rfl (pm_zc _) (hq sc _ (by omega)) (fun M9 hq => ?_)
              refine fr_aload_n (pc := 104) dX11_count_104 rfl rfl ?_
              refine fr_getr (a := 0) (pc := 105) dX11_count_105 rfl pf_11_68 s0_0 rfl rf_0_9 ?_
              refine fr_getf (a := 77) (i := 12) (v := gI M9 77 12) (t := 0) (pc := 108) dX11_count_108 rfl pf_11_321 rfl s0_77 rfl rfl ?_
              exact fr_iret (pc := 111) dX11_count_111 (Or.inl rfl) hq
            · refine pm_ite hq (fun hc11 hq => ?_) (fun hc11 hq => ?_)
              · refine fr_tabV (tg := 112) (off := 111) (v := 6) (pc := 1) dX11_count_1 hc11 (by decide) rfl rfl ?_
                refine fr_aload_n (pc := 112) dX11_count_112 rfl rfl ?_
                refine fr_getr (a := 0) (pc := 113) dX11_count_113 rfl pf_11_16 s0_0 rfl rf_0_4 ?_
                refine fr_inVI (a := 2) (as := []) (rest := []) (ls' := [(2, 2)]) (c1 := 0) (c2 := 0) (pc := 116) dX11_count_116 pl_11_322 rfl ⟨Nat.le_of_ble_eq_true rfl, Nat.le_of_ble_eq_true rfl⟩ rfl rfl rfl s0_2 (Nat.le_of_ble_eq_true rfl) (by omega) rfl rfl (pm_zc _) (hq sc _ (by omega)) (fun r13 M12 hq => ?_)
                exact fr_iret (pc := 119) dX11_count_119 (Or.inl rfl) hq
              · refine pm_ite hq (fun hc14 hq => ?_) (fun hc14 hq => ?_)
                · refine fr_tabV (tg := 120) (off := 119) (v := 7) (pc := 1) dX11_count_1 hc14 (by decide) rfl rfl ?_
                  refine fr_aload_n (pc := 120) dX11_count_120 rfl rfl ?_
                  refine fr_getr (a := 0) (pc := 121) dX11_count_121 rfl pf_11_16 s0_0 rfl rf_0_4 ?_
                  refine fr_getf (a := 2) (i := 17) (v := gI M 2 17) (t := 0) (pc := 124) dX11_count_124 rfl pf_11_311 rfl s0_2 rfl rfl ?_
                  exact fr_iret (pc := 127) dX11_count_127 (Or.inl rfl) hq
                · refine pm_ite hq (fun hc15 hq => ?_) (fun hc15 hq => ?_)
                  · refine fr_tabV (tg := 128) (off := 127) (v := 8) (pc := 1) dX11_count_1 hc15 (by decide) rfl rfl ?_
                    refine fr_aload_n (pc := 128) dX11_count_128 rfl rfl ?_
                    refine fr_getf (a := 0) (i := 1) (v := gI M 0 1) (t := 0) (pc := 129) dX11_count_129 rfl pf_11_106 rfl s0_0 rfl rfl ?_
                    exact fr_iret (pc := 132) dX11_count_132 (Or.inl rfl) hq
                  · refine pm_ite hq (fun hc16 hq => ?_) (fun hc16 hq => ?_)
                    · refine fr_tabV (tg := 133) (off := 132) (v := 9) (pc := 1) dX11_count_1 hc16 (by decide) rfl rfl ?_
                      refine fr_aload_n (pc := 133) dX11_count_133 rfl rfl ?_
                      refine fr_getr (a := 0) (pc := 134) dX11_count_134 rfl pf_11_16 s0_0 rfl rf_0_4 ?_
                      refine fr_inVI (a := 2) (as := []) (rest := []) (ls' := [(2, 2), (9, 0), (9, 0)]) (c1 := 0) (c2 := 0) (pc := 137) dX11_count_137 pl_11_325 rfl ⟨Nat.le_of_ble_eq_true rfl, Nat.le_of_ble_eq_true rfl⟩ rfl rfl rfl s0_2 (Nat.le_of_ble_eq_true rfl) (by omega) rfl rfl (pm_zc _) (hq sc _ (by omega)) (fun r18 M17 hq => ?_)
                      exact fr_iret (pc := 140) dX11_count_140 (Or.inl rfl) hq
                    · refine fr_tableO (tg := 141) (pc := 1) dX11_count_1 (by omega) rfl ?_
                      refine fr_iconst (pc := 141) dX11_count_141 (by decide) ?_
                      exact fr_iret (pc := 142) dX11_count_142 (Or.inl rfl) hq
theorem k0_allChanges_r {M : pm_M} {K : Int → pm_M → Prop} (hq : k0_allChanges_4 0 0 M K) : k0_allChanges M K := by
  intro sc d hd
  refine fr_iconst (pc := 0) dX0_allChanges_0 (by decide) ?_
  refine fr_istore_n (ls2 := [(2, 2), (0, 0), (9, 0)]) (pc := 1) dX0_allChanges_1 rfl (Nat.le_of_ble_eq_true rfl) rfl ?_
  refine fr_iconst (pc := 2) dX0_allChanges_2 (by decide) ?_
  refine fr_istore_n (ls2 := [(2, 2), (0, 0), (0, 0)]) (pc := 3) dX0_allChanges_3 rfl (Nat.le_of_ble_eq_true rfl) rfl ?_
  exact hq sc d hd
theorem k0_allChanges_4_r {l1 l2 : Int} {M : pm_M} {K : Int → pm_M → Prop} (hq : (if l2 < gI M 2 15 then k0_changeCount l2 M (fun r3 M2 => k0_allChanges_4 (w32 (l1 + r3)) (w32 (l2 + 1)) M2 K) else K l1 M)) : k0_allChanges_4 l1 l2 M K := by
  intro sc d hd
  refine fr_iload_n (pc := 4) dX0_allChanges_4 rfl rfl ?_
  refine fr_aload_n (pc := 5) dX0_allChanges_5 rfl rfl ?_
  refine fr_getf (a := 2) (i := 15) (v := gI M 2 15) (t := 0) (pc := 6) dX0_allChanges_6 rfl pf_0_57 rfl s0_2 rfl rfl ?_
  refine fr_icm_ge (tg := 26) (pc := 9) dX0_allChanges_9 rfl hq (fun hc1 hq => ?_) (fun hc1 hq => ?_)
  · refine fr_iload_n (pc := 12) dX0_allChanges_12 rfl rfl ?_
    refine fr_aload_n (pc := 13) dX0_allChanges_13 rfl rfl ?_
    refine fr_iload_n (pc := 14) dX0_allChanges_14 rfl rfl ?_
    refine fr_inVI (a := 2) (as := [(0, l2)]) (rest := [(0, l1)]) (ls' := [(2, 2), (0, l2)]) (c1 := 0) (c2 := 0) (pc := 15) dX0_allChanges_15 pl_0_101 rfl ⟨Nat.le_of_ble_eq_true rfl, Nat.le_of_ble_eq_true rfl⟩ rfl rfl rfl s0_2 (Nat.le_of_ble_eq_true rfl) (by omega) rfl rfl (pm_zc _) (hq sc _ (by omega)) (fun r3 M2 hq => ?_)
    refine fr_iadd (z := w32 (l1 + r3)) (pc := 18) dX0_allChanges_18 rfl ?_
    refine fr_istore_n (ls2 := [(2, 2), (0, w32 (l1 + r3)), (0, l2)]) (pc := 19) dX0_allChanges_19 rfl (Nat.le_of_ble_eq_true rfl) rfl ?_
    refine fr_iinc (z := w32 (l2 + 1)) (ls2 := [(2, 2), (0, w32 (l1 + r3)), (0, w32 (l2 + 1))]) (pc := 20) dX0_allChanges_20 (Nat.le_of_ble_eq_true rfl) rfl rfl rfl ?_
    refine fr_goto (tg := 4) (pc := 23) dX0_allChanges_23 rfl ?_
    exact hq sc d hd
  · refine fr_iload_n (pc := 26) dX0_allChanges_26 rfl rfl ?_
    exact fr_iret (pc := 27) dX0_allChanges_27 (Or.inl rfl) hq
theorem k11_node_r {c : Nat} {a1 a2 : Int} {M : pm_M} {K : Int → Int → pm_M → Prop} (hq : (if a1 < 0 then (1 ≤ c ∧ K 1 0 M) else (if a1 < gI M 2 15 then (if a2 = 0 then ((0 ≤ a1 ∧ a1 < 60) ∧ K 0 (gI M 3 a1) M) else (if a2 = 1 then k0_told a1 M (fun r7 M6 => K 0 r7 M6) else (if a2 = 2 then ((0 ≤ a1 ∧ a1 < 60) ∧ K 0 (gI M 6 a1) M) else (if a2 = 3 then ((0 ≤ a1 ∧ a1 < 60) ∧ K 0 (gI M 7 a1) M) else (if a2 = 4 then k0_isGone a1 M (fun r14 M13 => (if r14 = 0 then ((0 ≤ a1 ∧ a1 < 60) ∧ K 0 (gI M13 5 a1) M13) else K 0 1 M13)) else (1 ≤ c ∧ K 1 0 M)))))) else (1 ≤ c ∧ K 1 0 M)))) : k11_node c a1 a2 M K := by
  intro sc d hd
  refine fr_aload_n (pc := 0) dX11_node_0 rfl rfl ?_
  refine fr_getr (a := 0) (pc := 1) dX11_node_1 rfl pf_11_16 s0_0 rfl rf_0_4 ?_
  refine fr_iload_n (pc := 4) dX11_node_4 rfl rfl ?_
  refine fr_inVI (a := 2) (as := [(0, a1)]) (rest := []) (ls' := [(2, 2), (0, a1)]) (c1 := 0) (c2 := c) (pc := 5) dX11_node_5 pl_11_128 rfl ⟨Nat.le_of_ble_eq_true rfl, Nat.le_of_ble_eq_true rfl⟩ rfl rfl rfl s0_2 (Nat.le_of_ble_eq_true rfl) (by omega) rfl rfl (pm_zc _) ?_ (fun y M' h => h)
  refine fr_iload_n (pc := 0) dX0_hasNode_0 rfl rfl ?_
  refine fr_ifc_lt (tg := 16) (pc := 1) dX0_hasNode_1 rfl hq (fun hc1 hq => ?_) (fun hc1 hq => ?_)
  · refine fr_iconst (pc := 16) dX0_hasNode_16 (by decide) ?_
    refine fr_iret (pc := 17) dX0_hasNode_17 (Or.inr (Or.inl ⟨rfl, Or.inl rfl⟩)) ?_
    refine fr_ifcF (tg := 21) (pc := 8) dX11_node_8 rfl rfl ?_
    exact fr_thr (pc := 11) dX11_node_11 rfl (by decide) (by decide +kernel) hq.1 hq.2
  · refine fr_iload_n (pc := 4) dX0_hasNode_4 rfl rfl ?_
    refine fr_aload_n (pc := 5) dX0_hasNode_5 rfl rfl ?_
    refine fr_getf (a := 2) (i := 15) (v := gI M 2 15) (t := 0) (pc := 6) dX0_hasNode_6 rfl pf_0_57 rfl s0_2 rfl rfl ?_
    refine fr_icm_ge (tg := 16) (pc := 9) dX0_hasNode_9 rfl hq (fun hc2 hq => ?_) (fun hc2 hq => ?_)
    · refine fr_iconst (pc := 12) dX0_hasNode_12 (by decide) ?_
      refine fr_goto (tg := 17) (pc := 13) dX0_hasNode_13 rfl ?_
      refine fr_iret (pc := 17) dX0_hasNode_17 (Or.inr (Or.inl ⟨rfl, Or.inr rfl⟩)) ?_
      refine fr_ifcT (tg := 21) (pc := 8) dX11_node_8 rfl rfl ?_
      refine fr_iload_n (pc := 21) dX11_node_21 rfl rfl ?_
      refine pm_ite hq (fun hc3 hq => ?_) (fun hc3 hq => ?_)
      · refine fr_tabV (tg := 56) (off := 34) (v := 0) (pc := 22) dX11_node_22 hc3 (by decide) rfl rfl ?_
        refine fr_aload_n (pc := 56) dX11_node_56 rfl rfl ?_
        refine fr_getr (a := 0) (pc := 57) dX11_node_57 rfl pf_11_16 s0_0 rfl rf_0_4 ?_
        refine fr_getr (a := 2) (pc := 60) dX11_node_60 rfl pf_11_139 s0_2 rfl rf_2_0 ?_
        refine fr_iload_n (pc := 63) dX11_node_63 rfl rfl ?_
        obtain ⟨hb4, hq⟩ := hq
        refine fr_iaload (a := 3) (v := gI M 3 a1) (pc := 64) dX11_node_64 rfl s0_3 hb4 rfl ?_
        exact fr_iretT (pc := 65) dX11_node_65 rfl hq
      · refine pm_ite hq (fun hc5 hq => ?_) (fun hc5 hq => ?_)
        · refine fr_tabV (tg := 66) (off := 44) (v := 1) (pc := 22) dX11_node_22 hc5 (by decide) rfl rfl ?_
          refine fr_aload_n (pc := 66) dX11_node_66 rfl rfl ?_
          refine fr_getr (a := 0) (pc := 67) dX11_node_67 rfl pf_11_16 s0_0 rfl rf_0_4 ?_
          refine fr_iload_n (pc := 70) dX11_node_70 rfl rfl ?_
          refine fr_inVI (a := 2) (as := [(0, a1)]) (rest := []) (ls' := [(2, 2), (0, a1)]) (c1 := 0) (c2 := c) (pc := 71) dX11_node_71 pl_11_143 rfl ⟨Nat.le_of_ble_eq_true rfl, Nat.le_of_ble_eq_true rfl⟩ rfl rfl rfl s0_2 (Nat.le_of_ble_eq_true rfl) (by omega) rfl rfl (pm_zc _) (hq sc _ (by omega)) (fun r7 M6 hq => ?_)
          exact fr_iretT (pc := 74) dX11_node_74 rfl hq
        · refine pm_ite hq (fun hc8 hq => ?_) (fun hc8 hq => ?_)
          · refine fr_tabV (tg := 75) (off := 53) (v := 2) (pc := 22) dX11_node_22 hc8 (by decide) rfl rfl ?_
            refine fr_aload_n (pc := 75) dX11_node_75 rfl rfl ?_
            refine fr_getr (a := 0) (pc := 76) dX11_node_76 rfl pf_11_16 s0_0 rfl rf_0_4 ?_
            refine fr_getr (a := 2) (pc := 79) dX11_node_79 rfl pf_11_147 s0_2 rfl rf_2_3 ?_
            refine fr_iload_n (pc := 82) dX11_node_82 rfl rfl ?_
            obtain ⟨hb9, hq⟩ := hq
            refine fr_iaload (a := 6) (v := gI M 6 a1) (pc := 83) dX11_node_83 rfl s0_6 hb9 rfl ?_
            exact fr_iretT (pc := 84) dX11_node_84 rfl hq
          · refine pm_ite hq (fun hc10 hq => ?_) (fun hc10 hq => ?_)
            · refine fr_tabV (tg := 85) (off := 63) (v := 3) (pc := 22) dX11_node_22 hc10 (by decide) rfl rfl ?_
              refine fr_aload_n (pc := 85) dX11_node_85 rfl rfl ?_
              refine fr_getr (a := 0) (pc := 86) dX11_node_86 rfl pf_11_16 s0_0 rfl rf_0_4 ?_
              refine fr_getr (a := 2) (pc := 89) dX11_node_89 rfl pf_11_150 s0_2 rfl rf_2_4 ?_
              refine fr_iload_n (pc := 92) dX11_node_92 rfl rfl ?_
              obtain ⟨hb11, hq⟩ := hq
              refine fr_iaload (a := 7) (v := gI M 7 a1) (pc := 93) dX11_node_93 rfl s0_7 hb11 rfl ?_
              exact fr_iretT (pc := 94) dX11_node_94 rfl hq
            · refine pm_ite hq (fun hc12 hq => ?_) (fun hc12 hq => ?_)
              · refine fr_tabV (tg := 95) (off := 73) (v := 4) (pc := 22) dX11_node_22 hc12 (by decide) rfl rfl ?_
                refine fr_aload_n (pc := 95) dX11_node_95 rfl rfl ?_
                refine fr_getr (a := 0) (pc := 96) dX11_node_96 rfl pf_11_16 s0_0 rfl rf_0_4 ?_
                refine fr_iload_n (pc := 99) dX11_node_99 rfl rfl ?_
                refine fr_inVI (a := 2) (as := [(0, a1)]) (rest := []) (ls' := [(2, 2), (0, a1), (9, 0), (9, 0)]) (c1 := 0) (c2 := c) (pc := 100) dX11_node_100 pl_11_153 rfl ⟨Nat.le_of_ble_eq_true rfl, Nat.le_of_ble_eq_true rfl⟩ rfl rfl rfl s0_2 (Nat.le_of_ble_eq_true rfl) (by omega) rfl rfl (pm_zc _) (hq sc _ (by omega)) (fun r14 M13 hq => ?_)
                refine fr_ifc_eq (tg := 110) (pc := 103) dX11_node_103 rfl hq (fun hc15 hq => ?_) (fun hc15 hq => ?_)
                · refine fr_aload_n (pc := 110) dX11_node_110 rfl rfl ?_
                  refine fr_getr (a := 0) (pc := 111) dX11_node_111 rfl pf_11_16 s0_0 rfl rf_0_4 ?_
                  refine fr_getr (a := 2) (pc := 114) dX11_node_114 rfl pf_11_156 s0_2 rfl rf_2_2 ?_
                  refine fr_iload_n (pc := 117) dX11_node_117 rfl rfl ?_
                  obtain ⟨hb16, hq⟩ := hq
                  refine fr_iaload (a := 5) (v := gI M13 5 a1) (pc := 118) dX11_node_118 rfl s0_5 hb16 rfl ?_
                  exact fr_iretT (pc := 119) dX11_node_119 rfl hq
                · refine fr_iconst (pc := 106) dX11_node_106 (by decide) ?_
                  refine fr_goto (tg := 119) (pc := 107) dX11_node_107 rfl ?_
                  exact fr_iretT (pc := 119) dX11_node_119 rfl hq
              · refine fr_tableO (tg := 120) (pc := 22) dX11_node_22 (by omega) rfl ?_
                exact fr_thr (pc := 120) dX11_node_120 rfl (by decide) (by decide +kernel) hq.1 hq.2
    · refine fr_iconst (pc := 16) dX0_hasNode_16 (by decide) ?_
      refine fr_iret (pc := 17) dX0_hasNode_17 (Or.inr (Or.inl ⟨rfl, Or.inl rfl⟩)) ?_
      refine fr_ifcF (tg := 21) (pc := 8) dX11_node_8 rfl rfl ?_
      exact fr_thr (pc := 11) dX11_node_11 rfl (by decide) (by decide +kernel) hq.1 hq.2
theorem k0_told_r {a1 : Int} {M : pm_M} {K : Int → pm_M → Prop} (hq : ((0 ≤ a1 ∧ a1 < 60) ∧ (if gI M 3 a1 = 0 then K (gI M 4 a1) M else (if gI M 3 a1 = 1 then K (-100) M else (if gI M 3 a1 = 2 then K (-100) M else (if gI M 3 a1 = 3 then K (-100) M else (if gI M 3 a1 = 4 then K (gI M 4 a1) M else (if gI M 3 a1 = 5 then K (gI M 4 a1) M else (if gI M 3 a1 = 6 then K (-100) M else (if gI M 3 a1 = 7 then K (gI M 4 a1) M else K (-100) M)))))))))) : k0_told a1 M K := by
  intro sc d hd
  refine fr_aload_n (pc := 0) dX0_told_0 rfl rfl ?_
  refine fr_getr (a := 2) (pc := 1) dX0_told_1 rfl pf_0_9 s0_2 rfl rf_2_0 ?_
  refine fr_iload_n (pc := 4) dX0_told_4 rfl rfl ?_
  obtain ⟨hb1, hq⟩ := hq
  refine fr_iaload (a := 3) (v := gI M 3 a1) (pc := 5) dX0_told_5 rfl s0_3 hb1 rfl ?_
  refine pm_ite hq (fun hc2 hq => ?_) (fun hc2 hq => ?_)
  · refine fr_tabV (tg := 52) (off := 46) (v := 0) (pc := 6) dX0_told_6 hc2 (by decide) rfl rfl ?_
    refine fr_aload_n (pc := 52) dX0_told_52 rfl rfl ?_
    refine fr_getr (a := 2) (pc := 53) dX0_told_53 rfl pf_0_15 s0_2 rfl rf_2_1 ?_
    refine fr_iload_n (pc := 56) dX0_told_56 rfl rfl ?_
    refine fr_iaload (a := 4) (v := gI M 4 a1) (pc := 57) dX0_told_57 rfl s0_4 hb1 rfl ?_
    exact fr_iret (pc := 58) dX0_told_58 (Or.inl rfl) hq
  · refine pm_ite hq (fun hc3 hq => ?_) (fun hc3 hq => ?_)
    · refine fr_tabV (tg := 59) (off := 53) (v := 1) (pc := 6) dX0_told_6 hc3 (by decide) rfl rfl ?_
      refine fr_bipush (pc := 59) dX0_told_59 (by decide) ?_
      exact fr_iret (pc := 61) dX0_told_61 (Or.inl rfl) hq
    · refine pm_ite hq (fun hc4 hq => ?_) (fun hc4 hq => ?_)
      · refine fr_tabV (tg := 59) (off := 53) (v := 2) (pc := 6) dX0_told_6 hc4 (by decide) rfl rfl ?_
        refine fr_bipush (pc := 59) dX0_told_59 (by decide) ?_
        exact fr_iret (pc := 61) dX0_told_61 (Or.inl rfl) hq
      · refine pm_ite hq (fun hc5 hq => ?_) (fun hc5 hq => ?_)
        · refine fr_tabV (tg := 59) (off := 53) (v := 3) (pc := 6) dX0_told_6 hc5 (by decide) rfl rfl ?_
          refine fr_bipush (pc := 59) dX0_told_59 (by decide) ?_
          exact fr_iret (pc := 61) dX0_told_61 (Or.inl rfl) hq
        · refine pm_ite hq (fun hc6 hq => ?_) (fun hc6 hq => ?_)
          · refine fr_tabV (tg := 52) (off := 46) (v := 4) (pc := 6) dX0_told_6 hc6 (by decide) rfl rfl ?_
            refine fr_aload_n (pc := 52) dX0_told_52 rfl rfl ?_
            refine fr_getr (a := 2) (pc := 53) dX0_told_53 rfl pf_0_15 s0_2 rfl rf_2_1 ?_
            refine fr_iload_n (pc := 56) dX0_told_56 rfl rfl ?_
            refine fr_iaload (a := 4) (v := gI M 4 a1) (pc := 57) dX0_told_57 rfl s0_4 hb1 rfl ?_
            exact fr_iret (pc := 58) dX0_told_58 (Or.inl rfl) hq
          · refine pm_ite hq (fun hc7 hq => ?_) (fun hc7 hq => ?_)
            · refine fr_tabV (tg := 52) (off := 46) (v := 5) (pc := 6) dX0_told_6 hc7 (by decide) rfl rfl ?_
              refine fr_aload_n (pc := 52) dX0_told_52 rfl rfl ?_
              refine fr_getr (a := 2) (pc := 53) dX0_told_53 rfl pf_0_15 s0_2 rfl rf_2_1 ?_
              refine fr_iload_n (pc := 56) dX0_told_56 rfl rfl ?_
              refine fr_iaload (a := 4) (v := gI M 4 a1) (pc := 57) dX0_told_57 rfl s0_4 hb1 rfl ?_
              exact fr_iret (pc := 58) dX0_told_58 (Or.inl rfl) hq
            · refine pm_ite hq (fun hc8 hq => ?_) (fun hc8 hq => ?_)
              · refine fr_tabV (tg := 59) (off := 53) (v := 6) (pc := 6) dX0_told_6 hc8 (by decide) rfl rfl ?_
                refine fr_bipush (pc := 59) dX0_told_59 (by decide) ?_
                exact fr_iret (pc := 61) dX0_told_61 (Or.inl rfl) hq
              · refine pm_ite hq (fun hc9 hq => ?_) (fun hc9 hq => ?_)
                · refine fr_tabV (tg := 52) (off := 46) (v := 7) (pc := 6) dX0_told_6 hc9 (by decide) rfl rfl ?_
                  refine fr_aload_n (pc := 52) dX0_told_52 rfl rfl ?_
                  refine fr_getr (a := 2) (pc := 53) dX0_told_53 rfl pf_0_15 s0_2 rfl rf_2_1 ?_
                  refine fr_iload_n (pc := 56) dX0_told_56 rfl rfl ?_
                  refine fr_iaload (a := 4) (v := gI M 4 a1) (pc := 57) dX0_told_57 rfl s0_4 hb1 rfl ?_
                  exact fr_iret (pc := 58) dX0_told_58 (Or.inl rfl) hq
                · refine fr_tableO (tg := 59) (pc := 6) dX0_told_6 (by omega) rfl ?_
                  refine fr_bipush (pc := 59) dX0_told_59 (by decide) ?_
                  exact fr_iret (pc := 61) dX0_told_61 (Or.inl rfl) hq
theorem k11_test_r {c : Nat} {a1 a2 : Int} {M : pm_M} {K : Int → Int → pm_M → Prop} (hq : (if a1 < 0 then (1 ≤ c ∧ K 1 0 M) else (if a1 < gI M 18 1 then (if a2 < 0 then (1 ≤ c ∧ K 1 0 M) else (if a2 < 5 then ((0 ≤ a1 ∧ a1 < 16) ∧ ((0 ≤ a2 ∧ a2 < 5) ∧ K 0 (gI M (20 + a1.toNat) a2) M)) else (1 ≤ c ∧ K 1 0 M))) else (1 ≤ c ∧ K 1 0 M)))) : k11_test c a1 a2 M K := by
  intro sc d hd
  refine fr_aload_n (pc := 0) dX11_test_0 rfl rfl ?_
  refine fr_getr (a := 0) (pc := 1) dX11_test_1 rfl pf_11_23 s0_0 rfl rf_0_5 ?_
  refine fr_iload_n (pc := 4) dX11_test_4 rfl rfl ?_
  refine fr_inVI (a := 18) (as := [(0, a1)]) (rest := []) (ls' := [(2, 18), (0, a1)]) (c1 := 0) (c2 := c) (pc := 5) dX11_test_5 pl_11_161 rfl ⟨Nat.le_of_ble_eq_true rfl, Nat.le_of_ble_eq_true rfl⟩ rfl rfl rfl s0_18 (Nat.le_of_ble_eq_true rfl) (by omega) rfl rfl (pm_zc _) ?_ (fun y M' h => h)
  refine fr_iload_n (pc := 0) dX8_hasTest_0 rfl rfl ?_
  refine fr_ifc_lt (tg := 16) (pc := 1) dX8_hasTest_1 rfl hq (fun hc1 hq => ?_) (fun hc1 hq => ?_)
  · refine fr_iconst (pc := 16) dX8_hasTest_16 (by decide) ?_
    refine fr_iret (pc := 17) dX8_hasTest_17 (Or.inr (Or.inl ⟨rfl, Or.inl rfl⟩)) ?_
    refine fr_ifcT (tg := 20) (pc := 8) dX11_test_8 rfl rfl ?_
    exact fr_thr (pc := 20) dX11_test_20 rfl (by decide) (by decide +kernel) hq.1 hq.2
  · refine fr_iload_n (pc := 4) dX8_hasTest_4 rfl rfl ?_
    refine fr_aload_n (pc := 5) dX8_hasTest_5 rfl rfl ?_
    refine fr_getf (a := 18) (i := 1) (v := gI M 18 1) (t := 0) (pc := 6) dX8_hasTest_6 rfl pf_8_16 rfl s0_18 rfl rfl ?_
    refine fr_icm_ge (tg := 16) (pc := 9) dX8_hasTest_9 rfl hq (fun hc2 hq => ?_) (fun hc2 hq => ?_)
    · refine fr_iconst (pc := 12) dX8_hasTest_12 (by decide) ?_
      refine fr_goto (tg := 17) (pc := 13) dX8_hasTest_13 rfl ?_
      refine fr_iret (pc := 17) dX8_hasTest_17 (Or.inr (Or.inl ⟨rfl, Or.inr rfl⟩)) ?_
      refine fr_ifcF (tg := 20) (pc := 8) dX11_test_8 rfl rfl ?_
      refine fr_iload_n (pc := 11) dX11_test_11 rfl rfl ?_
      refine fr_ifc_lt (tg := 20) (pc := 12) dX11_test_12 rfl hq (fun hc3 hq => ?_) (fun hc3 hq => ?_)
      · exact fr_thr (pc := 20) dX11_test_20 rfl (by decide) (by decide +kernel) hq.1 hq.2
      · refine fr_iload_n (pc := 15) dX11_test_15 rfl rfl ?_
        refine fr_iconst (pc := 16) dX11_test_16 (by decide) ?_
        refine fr_icm_lt (tg := 30) (pc := 17) dX11_test_17 rfl hq (fun hc4 hq => ?_) (fun hc4 hq => ?_)
        · refine fr_aload_n (pc := 30) dX11_test_30 rfl rfl ?_
          refine fr_getr (a := 0) (pc := 31) dX11_test_31 rfl pf_11_23 s0_0 rfl rf_0_5 ?_
          refine fr_getr (a := 18) (pc := 34) dX11_test_34 rfl pf_11_166 s0_18 rfl rf_18_0 ?_
          refine fr_iload_n (pc := 37) dX11_test_37 rfl rfl ?_
          obtain ⟨hb5, hq⟩ := hq
          refine fr_aaload (a := 19) (pc := 38) dX11_test_38 rfl s0_19 hb5 rws_19 ?_
          refine fr_iload_n (pc := 39) dX11_test_39 rfl rfl ?_
          obtain ⟨hb6, hq⟩ := hq
          refine fr_iaload (a := (19 + 1 + a1.toNat)) (v := gI M (20 + a1.toNat) a2) (pc := 40) dX11_test_40 rfl (pm_rowS rwS_19 hb5) hb6 rfl ?_
          exact fr_iretT (pc := 41) dX11_test_41 rfl hq
        · exact fr_thr (pc := 20) dX11_test_20 rfl (by decide) (by decide +kernel) hq.1 hq.2
    · refine fr_iconst (pc := 16) dX8_hasTest_16 (by decide) ?_
      refine fr_iret (pc := 17) dX8_hasTest_17 (Or.inr (Or.inl ⟨rfl, Or.inl rfl⟩)) ?_
      refine fr_ifcT (tg := 20) (pc := 8) dX11_test_8 rfl rfl ?_
      exact fr_thr (pc := 20) dX11_test_20 rfl (by decide) (by decide +kernel) hq.1 hq.2
theorem k12_feed_r {a1 a2 a3 a4 a5 : Int} {M : pm_M} {K : Int → pm_M → Prop} (hq : (if w32 ((gI M 142 2) + 20) ≤ 600 then k12_puts a1 (upI M 142 0 0) (fun M2 => k12_puts a2 M2 (fun M4 => k12_puts a3 M4 (fun M6 => k12_puts a4 M6 (fun M8 => k12_puts a5 M8 (fun M10 => K (gI M10 142 2) M10))))) else K (-1) (upI M 142 0 0))) : k12_feed a1 a2 a3 a4 a5 M K := by
  intro sc d hd
  refine fr_aload_n (pc := 0) dX12_feed_0 rfl rfl ?_
  refine fr_iconst (pc := 1) dX12_feed_1 (by decide) ?_
  refine fr_put (a := 142) (i := 0) (pc := 2) dX12_feed_2 rfl pf_12_121 rfl s0_142 rfl rfl nf_142_0 rfl ?_
  refine fr_aload_n (pc := 5) dX12_feed_5 rfl rfl ?_
  refine fr_getf (a := 142) (i := 2) (v := gI M 142 2) (t := 0) (pc := 6) dX12_feed_6 rfl pf_12_124 rfl s0_142 rfl (gI_nf _ _ (by decide)) ?_
  refine fr_bipush (pc := 9) dX12_feed_9 (by decide) ?_
  refine fr_iadd (z := w32 ((gI M 142 2) + 20)) (pc := 11) dX12_feed_11 rfl ?_
  refine fr_sipush (pc := 12) dX12_feed_12 (by decide) ?_
  refine fr_icm_le (tg := 20) (pc := 15) dX12_feed_15 rfl hq (fun hc1 hq => ?_) (fun hc1 hq => ?_)
  · refine fr_aload_n (pc := 20) dX12_feed_20 rfl rfl ?_
    refine fr_iload_n (pc := 21) dX12_feed_21 rfl rfl ?_
    refine fr_inVV (a := 142) (as := [(0, a1)]) (rest := []) (ls' := [(2, 142), (0, a1), (9, 0)]) (c1 := 0) (c2 := 0) (pc := 22) dX12_feed_22 pl_12_127 rfl ⟨Nat.le_of_ble_eq_true rfl, Nat.le_of_ble_eq_true rfl⟩ rfl rfl rfl s0_142 (Nat.le_of_ble_eq_true rfl) (by omega) rfl rfl (pm_zc _) (hq sc _ (by omega)) (fun M2 hq => ?_)
    refine fr_aload_n (pc := 25) dX12_feed_25 rfl rfl ?_
    refine fr_iload_n (pc := 26) dX12_feed_26 rfl rfl ?_
    refine fr_inVV (a := 142) (as := [(0, a2)]) (rest := []) (ls' := [(2, 142), (0, a2), (9, 0)]) (c1 := 0) (c2 := 0) (pc := 27) dX12_feed_27 pl_12_127 rfl ⟨Nat.le_of_ble_eq_true rfl, Nat.le_of_ble_eq_true rfl⟩ rfl rfl rfl s0_142 (Nat.le_of_ble_eq_true rfl) (by omega) rfl rfl (pm_zc _) (hq sc _ (by omega)) (fun M4 hq => ?_)
    refine fr_aload_n (pc := 30) dX12_feed_30 rfl rfl ?_
    refine fr_iload_n (pc := 31) dX12_feed_31 rfl rfl ?_
    refine fr_inVV (a := 142) (as := [(0, a3)]) (rest := []) (ls' := [(2, 142), (0, a3), (9, 0)]) (c1 := 0) (c2 := 0) (pc := 32) dX12_feed_32 pl_12_127 rfl ⟨Nat.le_of_ble_eq_true rfl, Nat.le_of_ble_eq_true rfl⟩ rfl rfl rfl s0_142 (Nat.le_of_ble_eq_true rfl) (by omega) rfl rfl (pm_zc _) (hq sc _ (by omega)) (fun M6 hq => ?_)
    refine fr_aload_n (pc := 35) dX12_feed_35 rfl rfl ?_
    refine fr_iload (pc := 36) dX12_feed_36 rfl rfl ?_
    refine fr_inVV (a := 142) (as := [(0, a4)]) (rest := []) (ls' := [(2, 142), (0, a4), (9, 0)]) (c1 := 0) (c2 := 0) (pc := 38) dX12_feed_38 pl_12_127 rfl ⟨Nat.le_of_ble_eq_true rfl, Nat.le_of_ble_eq_true rfl⟩ rfl rfl rfl s0_142 (Nat.le_of_ble_eq_true rfl) (by omega) rfl rfl (pm_zc _) (hq sc _ (by omega)) (fun M8 hq => ?_)
    refine fr_aload_n (pc := 41) dX12_feed_41 rfl rfl ?_
    refine fr_iload (pc := 42) dX12_feed_42 rfl rfl ?_
    refine fr_inVV (a := 142) (as := [(0, a5)]) (rest := []) (ls' := [(2, 142), (0, a5), (9, 0)]) (c1 := 0) (c2 := 0) (pc := 44) dX12_feed_44 pl_12_127 rfl ⟨Nat.le_of_ble_eq_true rfl, Nat.le_of_ble_eq_true rfl⟩ rfl rfl rfl s0_142 (Nat.le_of_ble_eq_true rfl) (by omega) rfl rfl (pm_zc _) (hq sc _ (by omega)) (fun M10 hq => ?_)
    refine fr_aload_n (pc := 47) dX12_feed_47 rfl rfl ?_
    refine fr_getf (a := 142) (i := 2) (v := gI M10 142 2) (t := 0) (pc := 48) dX12_feed_48 rfl pf_12_124 rfl s0_142 rfl rfl ?_
    exact fr_iret (pc := 51) dX12_feed_51 (Or.inl rfl) hq
  · refine fr_iconst (pc := 18) dX12_feed_18 (by decide) ?_
    exact fr_iret (pc := 19) dX12_feed_19 (Or.inl rfl) hq
theorem k12_puts_r {a1 : Int} {M : pm_M} {K : pm_M → Prop} (hq : k12_puts_3 a1 24 M K) : k12_puts a1 M K := by
  intro sc d hd
  refine fr_bipush (pc := 0) dX12_puts_0 (by decide) ?_
  refine fr_istore_n (ls2 := [(2, 142), (0, a1), (0, 24)]) (pc := 2) dX12_puts_2 rfl (Nat.le_of_ble_eq_true rfl) rfl ?_
  exact hq sc d hd
theorem k12_puts_3_r {l1 l2 : Int} {M : pm_M} {K : pm_M → Prop} (hq : (if l2 < 0 then K M else ((0 ≤ gI M 142 2 ∧ gI M 142 2 < 600) ∧ k12_puts_3 l1 (w32 (l2 + (-8))) (upI (upI M 143 (gI M 142 2) (w8 (w8 (pm_ishr l1 l2)))) 142 2 (w32 ((gI M 142 2) + 1))) K))) : k12_puts_3 l1 l2 M K := by
  intro sc d hd
  refine fr_iload_n (pc := 3) dX12_puts_3 rfl rfl ?_
  refine fr_ifc_lt (tg := 36) (pc := 4) dX12_puts_4 rfl hq (fun hc1 hq => ?_) (fun hc1 hq => ?_)
  · exact fr_vret (pc := 36) dX12_puts_36 rfl hq
  · refine fr_aload_n (pc := 7) dX12_puts_7 rfl rfl ?_
    refine fr_getr (a := 142) (pc := 8) dX12_puts_8 rfl pf_12_7 s0_142 rfl rf_142_1 ?_
    refine fr_aload_n (pc := 11) dX12_puts_11 rfl rfl ?_
    refine fr_getf (a := 142) (i := 2) (v := gI M 142 2) (t := 0) (pc := 12) dX12_puts_12 rfl pf_12_124 rfl s0_142 rfl rfl ?_
    refine fr_iload_n (pc := 15) dX12_puts_15 rfl rfl ?_
    refine fr_iload_n (pc := 16) dX12_puts_16 rfl rfl ?_
    refine fr_ishr (z := pm_ishr l1 l2) (pc := 17) dX12_puts_17 rfl ?_
    refine fr_i2b (z := w8 (pm_ishr l1 l2)) (pc := 18) dX12_puts_18 rfl ?_
    obtain ⟨hb2, hq⟩ := hq
    refine fr_bastore (a := 143) (pc := 19) dX12_puts_19 rfl s0_143 hb2 nr_143 ?_
    refine fr_aload_n (pc := 20) dX12_puts_20 rfl rfl ?_
    refine fr_dup (pc := 21) dX12_puts_21 pm_t2 ?_
    refine fr_getf (a := 142) (i := 2) (v := gI M 142 2) (t := 0) (pc := 22) dX12_puts_22 rfl pf_12_124 rfl s0_142 rfl (gI_ne _ _ _ _ (by decide)) ?_
    refine fr_iconst (pc := 25) dX12_puts_25 (by decide) ?_
    refine fr_iadd (z := w32 ((gI M 142 2) + 1)) (pc := 26) dX12_puts_26 rfl ?_
    refine fr_put (a := 142) (i := 2) (pc := 27) dX12_puts_27 rfl pf_12_124 rfl s0_142 rfl rfl nf_142_2 rfl ?_
    refine fr_iinc (z := w32 (l2 + (-8))) (ls2 := [(2, 142), (0, l1), (0, w32 (l2 + (-8)))]) (pc := 30) dX12_puts_30 (Nat.le_of_ble_eq_true rfl) rfl rfl rfl ?_
    refine fr_goto (tg := 3) (pc := 33) dX12_puts_33 rfl ?_
    exact hq sc d hd
theorem k12_program_r {c : Nat} {a1 : Int} {M : pm_M} {K : Int → pm_M → Prop} (hq : (if a1 < 0 then K (-1) (upI M 142 0 0) else (if a1 ≤ gI M 142 2 then k12_go (upI (upI (upI (upI (upI (upI (upI (upI (upI M 142 0 0) 142 3 a1) 142 2 0) 142 5 0) 142 8 0) 142 18 0) 142 19 0) 142 20 0) 142 21 0) (fun M3 => (∃ c7 c8 : Nat, c7 + c8 ≤ c ∧ k12_row c7 300 150 (-1) 0 M3 (fun r6 M5 => (if r6 = 0 then K (w32 ((-2) - (gI M5 142 8))) M5 else (if gI M5 142 18 ≤ 60 then k12_program_128 c8 0 (upI (upI M5 144 0 (gI M5 142 18)) 144 1 (gI M5 142 19)) K else K (-4) (upI M5 142 8 2)))))) else K (-1) (upI M 142 0 0)))) : k12_program c a1 M K := by
  intro sc d hd
  refine fr_aload_n (pc := 0) dX12_program_0 rfl rfl ?_
  refine fr_iconst (pc := 1) dX12_program_1 (by decide) ?_
  refine fr_put (a := 142) (i := 0) (pc := 2) dX12_program_2 rfl pf_12_121 rfl s0_142 rfl rfl nf_142_0 rfl ?_
  refine fr_iload_n (pc := 5) dX12_program_5 rfl rfl ?_
  refine fr_iconst (pc := 6) dX12_program_6 (by decide) ?_
  refine fr_aload_n (pc := 7) dX12_program_7 rfl rfl ?_
  refine fr_getf (a := 142) (i := 2) (v := gI M 142 2) (t := 0) (pc := 8) dX12_program_8 rfl pf_12_124 rfl s0_142 rfl (gI_nf _ _ (by decide)) ?_
  refine fr_inSI (as := [(0, a1), (0, 0), (0, gI M 142 2)]) (rest := []) (ls' := [(0, a1), (0, 0), (0, gI M 142 2)]) (c1 := 0) (c2 := c) (pc := 11) dX12_program_11 pl_12_147 rfl ⟨Nat.le_of_ble_eq_true rfl, Nat.le_of_ble_eq_true rfl⟩ rfl rfl  (by omega) rfl rfl (pm_zc _) ?_ (fun y M' h => h)
  refine fr_iload_n (pc := 0) dX12_within_0 rfl rfl ?_
  refine fr_iload_n (pc := 1) dX12_within_1 rfl rfl ?_
  refine fr_icm_lt (tg := 14) (pc := 2) dX12_within_2 rfl hq (fun hc1 hq => ?_) (fun hc1 hq => ?_)
  · refine fr_iconst (pc := 14) dX12_within_14 (by decide) ?_
    refine fr_iret (pc := 15) dX12_within_15 (Or.inr (Or.inl ⟨rfl, Or.inl rfl⟩)) ?_
    refine fr_ifcF (tg := 19) (pc := 14) dX12_program_14 rfl rfl ?_
    refine fr_iconst (pc := 17) dX12_program_17 (by decide) ?_
    exact fr_iret (pc := 18) dX12_program_18 (Or.inl rfl) hq
  · refine fr_iload_n (pc := 5) dX12_within_5 rfl rfl ?_
    refine fr_iload_n (pc := 6) dX12_within_6 rfl rfl ?_
    refine fr_icm_gt (tg := 14) (pc := 7) dX12_within_7 rfl hq (fun hc2 hq => ?_) (fun hc2 hq => ?_)
    · refine fr_iconst (pc := 10) dX12_within_10 (by decide) ?_
      refine fr_goto (tg := 15) (pc := 11) dX12_within_11 rfl ?_
      refine fr_iret (pc := 15) dX12_within_15 (Or.inr (Or.inl ⟨rfl, Or.inr rfl⟩)) ?_
      refine fr_ifcT (tg := 19) (pc := 14) dX12_program_14 rfl rfl ?_
      refine fr_aload_n (pc := 19) dX12_program_19 rfl rfl ?_
      refine fr_iload_n (pc := 20) dX12_program_20 rfl rfl ?_
      refine fr_put (a := 142) (i := 3) (pc := 21) dX12_program_21 rfl pf_12_131 rfl s0_142 rfl rfl nf_142_3 rfl ?_
      refine fr_aload_n (pc := 24) dX12_program_24 rfl rfl ?_
      refine fr_iconst (pc := 25) dX12_program_25 (by decide) ?_
      refine fr_put (a := 142) (i := 2) (pc := 26) dX12_program_26 rfl pf_12_124 rfl s0_142 rfl rfl nf_142_2 rfl ?_
      refine fr_aload_n (pc := 29) dX12_program_29 rfl rfl ?_
      refine fr_iconst (pc := 30) dX12_program_30 (by decide) ?_
      refine fr_put (a := 142) (i := 5) (pc := 31) dX12_program_31 rfl pf_12_134 rfl s0_142 rfl rfl nf_142_5 rfl ?_
      refine fr_aload_n (pc := 34) dX12_program_34 rfl rfl ?_
      refine fr_iconst (pc := 35) dX12_program_35 (by decide) ?_
      refine fr_put (a := 142) (i := 8) (pc := 36) dX12_program_36 rfl pf_12_158 rfl s0_142 rfl rfl nf_142_8 rfl ?_
      refine fr_aload_n (pc := 39) dX12_program_39 rfl rfl ?_
      refine fr_iconst (pc := 40) dX12_program_40 (by decide) ?_
      refine fr_put (a := 142) (i := 18) (pc := 41) dX12_program_41 rfl pf_12_170 rfl s0_142 rfl rfl nf_142_18 rfl ?_
      refine fr_aload_n (pc := 44) dX12_program_44 rfl rfl ?_
      refine fr_iconst (pc := 45) dX12_program_45 (by decide) ?_
      refine fr_put (a := 142) (i := 19) (pc := 46) dX12_program_46 rfl pf_12_228 rfl s0_142 rfl rfl nf_142_19 rfl ?_
      refine fr_aload_n (pc := 49) dX12_program_49 rfl rfl ?_
      refine fr_iconst (pc := 50) dX12_program_50 (by decide) ?_
      refine fr_put (a := 142) (i := 20) (pc := 51) dX12_program_51 rfl pf_12_181 rfl s0_142 rfl rfl nf_142_20 rfl ?_
      refine fr_aload_n (pc := 54) dX12_program_54 rfl rfl ?_
      refine fr_iconst (pc := 55) dX12_program_55 (by decide) ?_
      refine fr_put (a := 142) (i := 21) (pc := 56) dX12_program_56 rfl pf_12_217 rfl s0_142 rfl rfl nf_142_21 rfl ?_
      refine fr_aload_n (pc := 59) dX12_program_59 rfl rfl ?_
      refine fr_inVV (a := 142) (as := []) (rest := []) (ls' := [(2, 142), (9, 0)]) (c1 := 0) (c2 := c) (pc := 60) dX12_program_60 pl_12_167 rfl ⟨Nat.le_of_ble_eq_true rfl, Nat.le_of_ble_eq_true rfl⟩ rfl rfl rfl s0_142 (Nat.le_of_ble_eq_true rfl) (by omega) rfl rfl (pm_zc _) (hq sc _ (by omega)) (fun M3 hq => ?_)
      refine fr_aload_n (pc := 63) dX12_program_63 rfl rfl ?_
      refine fr_iconst (pc := 64) dX12_program_64 (by decide) ?_
      refine fr_aload_n (pc := 65) dX12_program_65 rfl rfl ?_
      refine fr_getr (a := 142) (pc := 66) dX12_program_66 rfl pf_12_32 s0_142 rfl rf_142_15 ?_
      refine fr_iconst (pc := 69) dX12_program_69 (by decide) ?_
      obtain ⟨c7, c8, hcc9, hq⟩ := hq
      refine fr_inVI (a := 142) (as := [(0, (-1)), (2, 150), (0, 0)]) (rest := []) (ls' := [(2, 142), (0, (-1)), (2, 150), (0, 0), (9, 0), (9, 0), (9, 0)]) (c1 := c7) (c2 := c8) (pc := 70) dX12_program_70 pl_12_220 rfl ⟨Nat.le_of_ble_eq_true rfl, Nat.le_of_ble_eq_true rfl⟩ rfl rfl rfl s0_142 (Nat.le_of_ble_eq_true rfl) (by omega) rfl rfl hcc9 (hq sc _ (by omega)) (fun r6 M5 hq => ?_)
      refine fr_istore_n (ls2 := [(2, 142), (0, a1), (0, r6), (9, 0)]) (pc := 73) dX12_program_73 rfl (Nat.le_of_ble_eq_true rfl) rfl ?_
      refine fr_iload_n (pc := 74) dX12_program_74 rfl rfl ?_
      refine fr_ifc_eq (tg := 94) (pc := 75) dX12_program_75 rfl hq (fun hc10 hq => ?_) (fun hc10 hq => ?_)
      · refine fr_iload_n (pc := 94) dX12_program_94 rfl rfl ?_
        refine fr_ifcF (tg := 106) (pc := 95) dX12_program_95 (decide_eq_false (fun z => z hc10)) rfl ?_
        refine fr_bipush (pc := 98) dX12_program_98 (by decide) ?_
        refine fr_aload_n (pc := 100) dX12_program_100 rfl rfl ?_
        refine fr_getf (a := 142) (i := 8) (v := gI M5 142 8) (t := 0) (pc := 101) dX12_program_101 rfl pf_12_158 rfl s0_142 rfl rfl ?_
        refine fr_isub (z := w32 ((-2) - (gI M5 142 8))) (pc := 104) dX12_program_104 rfl ?_
        exact fr_iret (pc := 105) dX12_program_105 (Or.inl rfl) hq
      · refine fr_aload_n (pc := 78) dX12_program_78 rfl rfl ?_
        refine fr_getf (a := 142) (i := 18) (v := gI M5 142 18) (t := 0) (pc := 79) dX12_program_79 rfl pf_12_170 rfl s0_142 rfl rfl ?_
        refine fr_bipush (pc := 82) dX12_program_82 (by decide) ?_
        refine fr_icm_le (tg := 94) (pc := 84) dX12_program_84 rfl hq (fun hc11 hq => ?_) (fun hc11 hq => ?_)
        · refine fr_iload_n (pc := 94) dX12_program_94 rfl rfl ?_
          refine fr_ifcT (tg := 106) (pc := 95) dX12_program_95 (decide_eq_true hc10) rfl ?_
          refine fr_aload_n (pc := 106) dX12_program_106 rfl rfl ?_
          refine fr_getr (a := 142) (pc := 107) dX12_program_107 rfl pf_12_13 s0_142 rfl rf_142_9 ?_
          refine fr_iconst (pc := 110) dX12_program_110 (by decide) ?_
          refine fr_aload_n (pc := 111) dX12_program_111 rfl rfl ?_
          refine fr_getf (a := 142) (i := 18) (v := gI M5 142 18) (t := 0) (pc := 112) dX12_program_112 rfl pf_12_170 rfl s0_142 rfl rfl ?_
          refine fr_iastore (a := 144) (pc := 115) dX12_program_115 rfl s0_144 (by decide) nr_144 ?_
          refine fr_aload_n (pc := 116) dX12_program_116 rfl rfl ?_
          refine fr_getr (a := 142) (pc := 117) dX12_program_117 rfl pf_12_13 s0_142 rfl rf_142_9 ?_
          refine fr_iconst (pc := 120) dX12_program_120 (by decide) ?_
          refine fr_aload_n (pc := 121) dX12_program_121 rfl rfl ?_
          refine fr_getf (a := 142) (i := 19) (v := gI M5 142 19) (t := 0) (pc := 122) dX12_program_122 rfl pf_12_228 rfl s0_142 rfl (gI_ne _ _ _ _ (by decide)) ?_
          refine fr_iastore (a := 144) (pc := 125) dX12_program_125 rfl s0_144 (by decide) nr_144 ?_
          refine fr_iconst (pc := 126) dX12_program_126 (by decide) ?_
          refine fr_istore_n (ls2 := [(2, 142), (0, a1), (0, r6), (0, 0)]) (pc := 127) dX12_program_127 rfl (Nat.le_of_ble_eq_true rfl) rfl ?_
          exact hq sc d hd (0, a1) pm_t0 (0, r6) pm_t0
        · refine fr_iconst (pc := 87) dX12_program_87 (by decide) ?_
          refine fr_istore_n (ls2 := [(2, 142), (0, a1), (0, 0), (9, 0)]) (pc := 88) dX12_program_88 rfl (Nat.le_of_ble_eq_true rfl) rfl ?_
          refine fr_aload_n (pc := 89) dX12_program_89 rfl rfl ?_
          refine fr_iconst (pc := 90) dX12_program_90 (by decide) ?_
          refine fr_put (a := 142) (i := 8) (pc := 91) dX12_program_91 rfl pf_12_158 rfl s0_142 rfl rfl nf_142_8 rfl ?_
          refine fr_iload_n (pc := 94) dX12_program_94 rfl rfl ?_
          refine fr_ifcF (tg := 106) (pc := 95) dX12_program_95 rfl rfl ?_
          refine fr_bipush (pc := 98) dX12_program_98 (by decide) ?_
          refine fr_aload_n (pc := 100) dX12_program_100 rfl rfl ?_
          refine fr_getf (a := 142) (i := 8) (v := 2) (t := 0) (pc := 101) dX12_program_101 rfl pf_12_158 rfl s0_142 rfl (gI_eq _ _ _ _) ?_
          refine fr_isub (z := (-4)) (pc := 104) dX12_program_104 rfl ?_
          exact fr_iret (pc := 105) dX12_program_105 (Or.inl rfl) hq
    · refine fr_iconst (pc := 14) dX12_within_14 (by decide) ?_
      refine fr_iret (pc := 15) dX12_within_15 (Or.inr (Or.inl ⟨rfl, Or.inl rfl⟩)) ?_
      refine fr_ifcF (tg := 19) (pc := 14) dX12_program_14 rfl rfl ?_
      refine fr_iconst (pc := 17) dX12_program_17 (by decide) ?_
      exact fr_iret (pc := 18) dX12_program_18 (Or.inl rfl) hq
theorem k12_program_128_r {c : Nat} {l3 : Int} {M : pm_M} {K : Int → pm_M → Prop} (hq : (if l3 < gI M 142 18 then ((0 ≤ w32 (100 + l3) ∧ w32 (100 + l3) < 800) ∧ ((0 ≤ l3 ∧ l3 < 800) ∧ ((0 ≤ l3 ∧ l3 < 60) ∧ k12_program_128 c (w32 (l3 + 1)) (upI (upI (upI (upI (upI (upI (upI (upI (upI M 145 l3 (gI M 145 (w32 (100 + l3)))) 146 l3 (gI M 146 (w32 (100 + l3)))) 147 l3 (gI M 147 (w32 (100 + l3)))) 148 l3 (gI M 148 (w32 (100 + l3)))) 149 l3 (gI M 149 (w32 (100 + l3)))) 150 l3 (gI M 150 (w32 (100 + l3)))) 151 l3 (gI M 151 (w32 (100 + l3)))) 152 l3 (gI M 152 (w32 (100 + l3)))) 153 l3 0) K))) else k12_program_276 c 0 (upI M 142 22 0) K)) : k12_program_128 c l3 M K := by
  intro sc d hd z1 hz1 z2 hz2
  refine fr_iload_n (pc := 128) dX12_program_128 rfl rfl ?_
  refine fr_aload_n (pc := 129) dX12_program_129 rfl rfl ?_
  refine fr_getf (a := 142) (i := 18) (v := gI M 142 18) (t := 0) (pc := 130) dX12_program_130 rfl pf_12_170 rfl s0_142 rfl rfl ?_
  refine fr_icm_ge (tg := 269) (pc := 133) dX12_program_133 rfl hq (fun hc1 hq => ?_) (fun hc1 hq => ?_)
  · refine fr_aload_n (pc := 136) dX12_program_136 rfl rfl ?_
    refine fr_getr (a := 142) (pc := 137) dX12_program_137 rfl pf_12_17 s0_142 rfl rf_142_10 ?_
    refine fr_iload_n (pc := 140) dX12_program_140 rfl rfl ?_
    refine fr_aload_n (pc := 141) dX12_program_141 rfl rfl ?_
    refine fr_getr (a := 142) (pc := 142) dX12_program_142 rfl pf_12_17 s0_142 rfl rf_142_10 ?_
    refine fr_bipush (pc := 145) dX12_program_145 (by decide) ?_
    refine fr_iload_n (pc := 147) dX12_program_147 rfl rfl ?_
    refine fr_iadd (z := w32 (100 + l3)) (pc := 148) dX12_program_148 rfl ?_
    obtain ⟨hb2, hq⟩ := hq
    refine fr_iaload (a := 145) (v := gI M 145 (w32 (100 + l3))) (pc := 149) dX12_program_149 rfl s0_145 hb2 rfl ?_
    obtain ⟨hb3, hq⟩ := hq
    refine fr_iastore (a := 145) (pc := 150) dX12_program_150 rfl s0_145 hb3 nr_145 ?_
    refine fr_aload_n (pc := 151) dX12_program_151 rfl rfl ?_
    refine fr_getr (a := 142) (pc := 152) dX12_program_152 rfl pf_12_20 s0_142 rfl rf_142_11 ?_
    refine fr_iload_n (pc := 155) dX12_program_155 rfl rfl ?_
    refine fr_aload_n (pc := 156) dX12_program_156 rfl rfl ?_
    refine fr_getr (a := 142) (pc := 157) dX12_program_157 rfl pf_12_20 s0_142 rfl rf_142_11 ?_
    refine fr_bipush (pc := 160) dX12_program_160 (by decide) ?_
    refine fr_iload_n (pc := 162) dX12_program_162 rfl rfl ?_
    refine fr_iadd (z := w32 (100 + l3)) (pc := 163) dX12_program_163 rfl ?_
    refine fr_iaload (a := 146) (v := gI M 146 (w32 (100 + l3))) (pc := 164) dX12_program_164 rfl s0_146 hb2 (gI_ne _ _ _ _ (by decide)) ?_
    refine fr_iastore (a := 146) (pc := 165) dX12_program_165 rfl s0_146 hb3 nr_146 ?_
    refine fr_aload_n (pc := 166) dX12_program_166 rfl rfl ?_
    refine fr_getr (a := 142) (pc := 167) dX12_program_167 rfl pf_12_23 s0_142 rfl rf_142_12 ?_
    refine fr_iload_n (pc := 170) dX12_program_170 rfl rfl ?_
    refine fr_aload_n (pc := 171) dX12_program_171 rfl rfl ?_
    refine fr_getr (a := 142) (pc := 172) dX12_program_172 rfl pf_12_23 s0_142 rfl rf_142_12 ?_
    refine fr_bipush (pc := 175) dX12_program_175 (by decide) ?_
    refine fr_iload_n (pc := 177) dX12_program_177 rfl rfl ?_
    refine fr_iadd (z := w32 (100 + l3)) (pc := 178) dX12_program_178 rfl ?_
    refine fr_iaload (a := 147) (v := gI M 147 (w32 (100 + l3))) (pc := 179) dX12_program_179 rfl s0_147 hb2 ((gI_ne _ _ _ _ (by decide)).trans (gI_ne _ _ _ _ (by decide))) ?_
    refine fr_iastore (a := 147) (pc := 180) dX12_program_180 rfl s0_147 hb3 nr_147 ?_
    refine fr_aload_n (pc := 181) dX12_program_181 rfl rfl ?_
    refine fr_getr (a := 142) (pc := 182) dX12_program_182 rfl pf_12_26 s0_142 rfl rf_142_13 ?_
    refine fr_iload_n (pc := 185) dX12_program_185 rfl rfl ?_
    refine fr_aload_n (pc := 186) dX12_program_186 rfl rfl ?_
    refine fr_getr (a := 142) (pc := 187) dX12_program_187 rfl pf_12_26 s0_142 rfl rf_142_13 ?_
    refine fr_bipush (pc := 190) dX12_program_190 (by decide) ?_
    refine fr_iload_n (pc := 192) dX12_program_192 rfl rfl ?_
    refine fr_iadd (z := w32 (100 + l3)) (pc := 193) dX12_program_193 rfl ?_
    refine fr_iaload (a := 148) (v := gI M 148 (w32 (100 + l3))) (pc := 194) dX12_program_194 rfl s0_148 hb2 ((gI_ne _ _ _ _ (by decide)).trans ((gI_ne _ _ _ _ (by decide)).trans (gI_ne _ _ _ _ (by decide)))) ?_
    refine fr_iastore (a := 148) (pc := 195) dX12_program_195 rfl s0_148 hb3 nr_148 ?_
    refine fr_aload_n (pc := 196) dX12_program_196 rfl rfl ?_
    refine fr_getr (a := 142) (pc := 197) dX12_program_197 rfl pf_12_29 s0_142 rfl rf_142_14 ?_
    refine fr_iload_n (pc := 200) dX12_program_200 rfl rfl ?_
    refine fr_aload_n (pc := 201) dX12_program_201 rfl rfl ?_
    refine fr_getr (a := 142) (pc := 202) dX12_program_202 rfl pf_12_29 s0_142 rfl rf_142_14 ?_
    refine fr_bipush (pc := 205) dX12_program_205 (by decide) ?_
    refine fr_iload_n (pc := 207) dX12_program_207 rfl rfl ?_
    refine fr_iadd (z := w32 (100 + l3)) (pc := 208) dX12_program_208 rfl ?_
    refine fr_iaload (a := 149) (v := gI M 149 (w32 (100 + l3))) (pc := 209) dX12_program_209 rfl s0_149 hb2 ((gI_ne _ _ _ _ (by decide)).trans ((gI_ne _ _ _ _ (by decide)).trans ((gI_ne _ _ _ _ (by decide)).trans (gI_ne _ _ _ _ (by decide))))) ?_
    refine fr_iastore (a := 149) (pc := 210) dX12_program_210 rfl s0_149 hb3 nr_149 ?_
    refine fr_aload_n (pc := 211) dX12_program_211 rfl rfl ?_
    refine fr_getr (a := 142) (pc := 212) dX12_program_212 rfl pf_12_32 s0_142 rfl rf_142_15 ?_
    refine fr_iload_n (pc := 215) dX12_program_215 rfl rfl ?_
    refine fr_aload_n (pc := 216) dX12_program_216 rfl rfl ?_
    refine fr_getr (a := 142) (pc := 217) dX12_program_217 rfl pf_12_32 s0_142 rfl rf_142_15 ?_
    refine fr_bipush (pc := 220) dX12_program_220 (by decide) ?_
    refine fr_iload_n (pc := 222) dX12_program_222 rfl rfl ?_
    refine fr_iadd (z := w32 (100 + l3)) (pc := 223) dX12_program_223 rfl ?_
    refine fr_iaload (a := 150) (v := gI M 150 (w32 (100 + l3))) (pc := 224) dX12_program_224 rfl s0_150 hb2 ((gI_ne _ _ _ _ (by decide)).trans ((gI_ne _ _ _ _ (by decide)).trans ((gI_ne _ _ _ _ (by decide)).trans ((gI_ne _ _ _ _ (by decide)).trans (gI_ne _ _ _ _ (by decide)))))) ?_
    refine fr_iastore (a := 150) (pc := 225) dX12_program_225 rfl s0_150 hb3 nr_150 ?_
    refine fr_aload_n (pc := 226) dX12_program_226 rfl rfl ?_
    refine fr_getr (a := 142) (pc := 227) dX12_program_227 rfl pf_12_35 s0_142 rfl rf_142_16 ?_
    refine fr_iload_n (pc := 230) dX12_program_230 rfl rfl ?_
    refine fr_aload_n (pc := 231) dX12_program_231 rfl rfl ?_
    refine fr_getr (a := 142) (pc := 232) dX12_program_232 rfl pf_12_35 s0_142 rfl rf_142_16 ?_
    refine fr_bipush (pc := 235) dX12_program_235 (by decide) ?_
    refine fr_iload_n (pc := 237) dX12_program_237 rfl rfl ?_
    refine fr_iadd (z := w32 (100 + l3)) (pc := 238) dX12_program_238 rfl ?_
    refine fr_iaload (a := 151) (v := gI M 151 (w32 (100 + l3))) (pc := 239) dX12_program_239 rfl s0_151 hb2 ((gI_ne _ _ _ _ (by decide)).trans ((gI_ne _ _ _ _ (by decide)).trans ((gI_ne _ _ _ _ (by decide)).trans ((gI_ne _ _ _ _ (by decide)).trans ((gI_ne _ _ _ _ (by decide)).trans (gI_ne _ _ _ _ (by decide))))))) ?_
    refine fr_iastore (a := 151) (pc := 240) dX12_program_240 rfl s0_151 hb3 nr_151 ?_
    refine fr_aload_n (pc := 241) dX12_program_241 rfl rfl ?_
    refine fr_getr (a := 142) (pc := 242) dX12_program_242 rfl pf_12_38 s0_142 rfl rf_142_17 ?_
    refine fr_iload_n (pc := 245) dX12_program_245 rfl rfl ?_
    refine fr_aload_n (pc := 246) dX12_program_246 rfl rfl ?_
    refine fr_getr (a := 142) (pc := 247) dX12_program_247 rfl pf_12_38 s0_142 rfl rf_142_17 ?_
    refine fr_bipush (pc := 250) dX12_program_250 (by decide) ?_
    refine fr_iload_n (pc := 252) dX12_program_252 rfl rfl ?_
    refine fr_iadd (z := w32 (100 + l3)) (pc := 253) dX12_program_253 rfl ?_
    refine fr_iaload (a := 152) (v := gI M 152 (w32 (100 + l3))) (pc := 254) dX12_program_254 rfl s0_152 hb2 ((gI_ne _ _ _ _ (by decide)).trans ((gI_ne _ _ _ _ (by decide)).trans ((gI_ne _ _ _ _ (by decide)).trans ((gI_ne _ _ _ _ (by decide)).trans ((gI_ne _ _ _ _ (by decide)).trans ((gI_ne _ _ _ _ (by decide)).trans (gI_ne _ _ _ _ (by decide)))))))) ?_
    refine fr_iastore (a := 152) (pc := 255) dX12_program_255 rfl s0_152 hb3 nr_152 ?_
    refine fr_aload_n (pc := 256) dX12_program_256 rfl rfl ?_
    refine fr_getr (a := 142) (pc := 257) dX12_program_257 rfl pf_12_41 s0_142 rfl rf_142_23 ?_
    refine fr_iload_n (pc := 260) dX12_program_260 rfl rfl ?_
    refine fr_iconst (pc := 261) dX12_program_261 (by decide) ?_
    obtain ⟨hb4, hq⟩ := hq
    refine fr_iastore (a := 153) (pc := 262) dX12_program_262 rfl s0_153 hb4 nr_153 ?_
    refine fr_iinc (z := w32 (l3 + 1)) (ls2 := [(2, 142), z1, z2, (0, w32 (l3 + 1))]) (pc := 263) dX12_program_263 (Nat.le_of_ble_eq_true rfl) rfl rfl (pm_st1z hz2 rfl rfl) ?_
    refine fr_goto (tg := 128) (pc := 266) dX12_program_266 rfl ?_
    exact hq sc d hd z1 hz1 z2 hz2
  · refine fr_aload_n (pc := 269) dX12_program_269 rfl rfl ?_
    refine fr_iconst (pc := 270) dX12_program_270 (by decide) ?_
    refine fr_put (a := 142) (i := 22) (pc := 271) dX12_program_271 rfl pf_12_235 rfl s0_142 rfl rfl nf_142_22 rfl ?_
    refine fr_iconst (pc := 274) dX12_program_274 (by decide) ?_
    refine fr_istore_n (ls2 := [(2, 142), z1, z2, (0, 0)]) (pc := 275) dX12_program_275 rfl (Nat.le_of_ble_eq_true rfl) (pm_st1z hz2 rfl rfl) ?_
    exact hq sc d hd z1 hz1 z2 hz2
theorem k12_program_276_r {c : Nat} {l3 : Int} {M : pm_M} {K : Int → pm_M → Prop} (hq : (if l3 < gI M 142 18 then ((0 ≤ l3 ∧ l3 < 800) ∧ (if gI M 145 l3 = 0 then k12_program_276 c (w32 (l3 + 1)) (upI M 142 22 (pm_ior (gI M 142 22) (pm_ishl 1 (gI M 146 l3)))) K else (if gI M 145 l3 = 5 then k12_program_276 c (w32 (l3 + 1)) (upI M 142 22 (pm_ior (gI M 142 22) (pm_ishl 1 (gI M 146 l3)))) K else k12_program_276 c (w32 (l3 + 1)) (upI M 142 22 (pm_ior (gI M 142 22) 0)) K))) else K (gI M 142 18) (upI M 142 60 0))) : k12_program_276 c l3 M K := by
  intro sc d hd z1 hz1 z2 hz2
  refine fr_iload_n (pc := 276) dX12_program_276 rfl rfl ?_
  refine fr_aload_n (pc := 277) dX12_program_277 rfl rfl ?_
  refine fr_getf (a := 142) (i := 18) (v := gI M 142 18) (t := 0) (pc := 278) dX12_program_278 rfl pf_12_170 rfl s0_142 rfl rfl ?_
  refine fr_icm_ge (tg := 330) (pc := 281) dX12_program_281 rfl hq (fun hc1 hq => ?_) (fun hc1 hq => ?_)
  · refine fr_aload_n (pc := 284) dX12_program_284 rfl rfl ?_
    refine fr_dup (pc := 285) dX12_program_285 pm_t2 ?_
    refine fr_getf (a := 142) (i := 22) (v := gI M 142 22) (t := 0) (pc := 286) dX12_program_286 rfl pf_12_235 rfl s0_142 rfl rfl ?_
    refine fr_aload_n (pc := 289) dX12_program_289 rfl rfl ?_
    refine fr_getr (a := 142) (pc := 290) dX12_program_290 rfl pf_12_17 s0_142 rfl rf_142_10 ?_
    refine fr_iload_n (pc := 293) dX12_program_293 rfl rfl ?_
    obtain ⟨hb2, hq⟩ := hq
    refine fr_iaload (a := 145) (v := gI M 145 l3) (pc := 294) dX12_program_294 rfl s0_145 hb2 rfl ?_
    refine fr_ifc_eq (tg := 308) (pc := 295) dX12_program_295 rfl hq (fun hc3 hq => ?_) (fun hc3 hq => ?_)
    · refine fr_iconst (pc := 308) dX12_program_308 (by decide) ?_
      refine fr_aload_n (pc := 309) dX12_program_309 rfl rfl ?_
      refine fr_getr (a := 142) (pc := 310) dX12_program_310 rfl pf_12_20 s0_142 rfl rf_142_11 ?_
      refine fr_iload_n (pc := 313) dX12_program_313 rfl rfl ?_
      refine fr_iaload (a := 146) (v := gI M 146 l3) (pc := 314) dX12_program_314 rfl s0_146 hb2 rfl ?_
      refine fr_ishl (z := pm_ishl 1 (gI M 146 l3)) (pc := 315) dX12_program_315 rfl ?_
      refine fr_goto (tg := 320) (pc := 316) dX12_program_316 rfl ?_
      refine fr_ior (z := pm_ior (gI M 142 22) (pm_ishl 1 (gI M 146 l3))) (pc := 320) dX12_program_320 rfl ?_
      refine fr_put (a := 142) (i := 22) (pc := 321) dX12_program_321 rfl pf_12_235 rfl s0_142 rfl rfl nf_142_22 rfl ?_
      refine fr_iinc (z := w32 (l3 + 1)) (ls2 := [(2, 142), z1, z2, (0, w32 (l3 + 1))]) (pc := 324) dX12_program_324 (Nat.le_of_ble_eq_true rfl) rfl rfl (pm_st1z hz2 rfl rfl) ?_
      refine fr_goto (tg := 276) (pc := 327) dX12_program_327 rfl ?_
      exact hq sc d hd z1 hz1 z2 hz2
    · refine fr_aload_n (pc := 298) dX12_program_298 rfl rfl ?_
      refine fr_getr (a := 142) (pc := 299) dX12_program_299 rfl pf_12_17 s0_142 rfl rf_142_10 ?_
      refine fr_iload_n (pc := 302) dX12_program_302 rfl rfl ?_
      refine fr_iaload (a := 145) (v := gI M 145 l3) (pc := 303) dX12_program_303 rfl s0_145 hb2 rfl ?_
      refine fr_iconst (pc := 304) dX12_program_304 (by decide) ?_
      refine fr_icm_ne (tg := 319) (pc := 305) dX12_program_305 rfl hq (fun hc4 hq => ?_) (fun hc4 hq => ?_)
      · refine fr_iconst (pc := 308) dX12_program_308 (by decide) ?_
        refine fr_aload_n (pc := 309) dX12_program_309 rfl rfl ?_
        refine fr_getr (a := 142) (pc := 310) dX12_program_310 rfl pf_12_20 s0_142 rfl rf_142_11 ?_
        refine fr_iload_n (pc := 313) dX12_program_313 rfl rfl ?_
        refine fr_iaload (a := 146) (v := gI M 146 l3) (pc := 314) dX12_program_314 rfl s0_146 hb2 rfl ?_
        refine fr_ishl (z := pm_ishl 1 (gI M 146 l3)) (pc := 315) dX12_program_315 rfl ?_
        refine fr_goto (tg := 320) (pc := 316) dX12_program_316 rfl ?_
        refine fr_ior (z := pm_ior (gI M 142 22) (pm_ishl 1 (gI M 146 l3))) (pc := 320) dX12_program_320 rfl ?_
        refine fr_put (a := 142) (i := 22) (pc := 321) dX12_program_321 rfl pf_12_235 rfl s0_142 rfl rfl nf_142_22 rfl ?_
        refine fr_iinc (z := w32 (l3 + 1)) (ls2 := [(2, 142), z1, z2, (0, w32 (l3 + 1))]) (pc := 324) dX12_program_324 (Nat.le_of_ble_eq_true rfl) rfl rfl (pm_st1z hz2 rfl rfl) ?_
        refine fr_goto (tg := 276) (pc := 327) dX12_program_327 rfl ?_
        exact hq sc d hd z1 hz1 z2 hz2
      · refine fr_iconst (pc := 319) dX12_program_319 (by decide) ?_
        refine fr_ior (z := pm_ior (gI M 142 22) 0) (pc := 320) dX12_program_320 rfl ?_
        refine fr_put (a := 142) (i := 22) (pc := 321) dX12_program_321 rfl pf_12_235 rfl s0_142 rfl rfl nf_142_22 rfl ?_
        refine fr_iinc (z := w32 (l3 + 1)) (ls2 := [(2, 142), z1, z2, (0, w32 (l3 + 1))]) (pc := 324) dX12_program_324 (Nat.le_of_ble_eq_true rfl) rfl rfl (pm_st1z hz2 rfl rfl) ?_
        refine fr_goto (tg := 276) (pc := 327) dX12_program_327 rfl ?_
        exact hq sc d hd z1 hz1 z2 hz2
  · refine fr_aload_n (pc := 330) dX12_program_330 rfl rfl ?_
    refine fr_iconst (pc := 331) dX12_program_331 (by decide) ?_
    refine fr_put (a := 142) (i := 60) (pc := 332) dX12_program_332 rfl pf_12_238 rfl s0_142 rfl rfl nf_142_60 rfl ?_
    refine fr_aload_n (pc := 335) dX12_program_335 rfl rfl ?_
    refine fr_getf (a := 142) (i := 18) (v := gI M 142 18) (t := 0) (pc := 336) dX12_program_336 rfl pf_12_170 rfl s0_142 rfl (gI_nf _ _ (by decide)) ?_
    exact fr_iret (pc := 339) dX12_program_339 (Or.inl rfl) hq

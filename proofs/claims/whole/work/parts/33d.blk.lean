-- needs 30 31 32
theorem k1_goOn_r {a1 a2 : Int} {M : pm_M} {K : Int → pm_M → Prop} (hq : ((0 ≤ a1 ∧ a1 < 60) ∧ (if gI M 3 a1 = 0 then ((0 ≤ gI M 4 a1 ∧ gI M 4 a1 < 9) ∧ K (gI M 10 a1) (upI M 74 (gI M 4 a1) a2)) else (if gI M 3 a1 = 3 then K (-1) (upI M 73 7 a2) else k1_comesOutSo a1 a2 M (fun r6 M5 => (if r6 = 0 then K (gI M5 12 a1) M5 else K (gI M5 11 a1) M5)))))) : k1_goOn a1 a2 M K := by
  intro sc d hd
  refine fr_aload_n (pc := 0) dX1_goOn_0 rfl rfl ?_
  refine fr_getr (a := 73) (pc := 1) dX1_goOn_1 rfl pf_1_28 s0_73 rfl rf_73_0 ?_
  refine fr_getr (a := 2) (pc := 4) dX1_goOn_4 rfl pf_1_104 s0_2 rfl rf_2_0 ?_
  refine fr_iload_n (pc := 7) dX1_goOn_7 rfl rfl ?_
  obtain ⟨hb1, hq⟩ := hq
  refine fr_iaload (a := 3) (v := gI M 3 a1) (pc := 8) dX1_goOn_8 rfl s0_3 hb1 rfl ?_
  refine pm_ite hq (fun hc2 hq => ?_) (fun hc2 hq => ?_)
  · refine fr_lookV (tg := 36) (off := 27) (v := 0) (pc := 9) dX1_goOn_9 rfl hc2 rfl rfl ?_
    refine fr_aload_n (pc := 36) dX1_goOn_36 rfl rfl ?_
    refine fr_getr (a := 73) (pc := 37) dX1_goOn_37 rfl pf_1_9 s0_73 rfl rf_73_2 ?_
    refine fr_aload_n (pc := 40) dX1_goOn_40 rfl rfl ?_
    refine fr_getr (a := 73) (pc := 41) dX1_goOn_41 rfl pf_1_28 s0_73 rfl rf_73_0 ?_
    refine fr_getr (a := 2) (pc := 44) dX1_goOn_44 rfl pf_1_107 s0_2 rfl rf_2_1 ?_
    refine fr_iload_n (pc := 47) dX1_goOn_47 rfl rfl ?_
    refine fr_iaload (a := 4) (v := gI M 4 a1) (pc := 48) dX1_goOn_48 rfl s0_4 hb1 rfl ?_
    refine fr_iload_n (pc := 49) dX1_goOn_49 rfl rfl ?_
    obtain ⟨hb3, hq⟩ := hq
    refine fr_iastore (a := 74) (pc := 50) dX1_goOn_50 rfl s0_74 hb3 nr_74 ?_
    refine fr_aload_n (pc := 51) dX1_goOn_51 rfl rfl ?_
    refine fr_getr (a := 73) (pc := 52) dX1_goOn_52 rfl pf_1_28 s0_73 rfl rf_73_0 ?_
    refine fr_getr (a := 2) (pc := 55) dX1_goOn_55 rfl pf_1_94 s0_2 rfl rf_2_7 ?_
    refine fr_iload_n (pc := 58) dX1_goOn_58 rfl rfl ?_
    refine fr_iaload (a := 10) (v := gI M 10 a1) (pc := 59) dX1_goOn_59 rfl s0_10 hb1 (gI_ne _ _ _ _ (by decide)) ?_
    exact fr_iret (pc := 60) dX1_goOn_60 (Or.inl rfl) hq
  · refine pm_ite hq (fun hc4 hq => ?_) (fun hc4 hq => ?_)
    · refine fr_lookV (tg := 61) (off := 52) (v := 3) (pc := 9) dX1_goOn_9 rfl hc4 rfl rfl ?_
      refine fr_aload_n (pc := 61) dX1_goOn_61 rfl rfl ?_
      refine fr_iload_n (pc := 62) dX1_goOn_62 rfl rfl ?_
      refine fr_put (a := 73) (i := 7) (pc := 63) dX1_goOn_63 rfl pf_1_76 rfl s0_73 rfl rfl nf_73_7 rfl ?_
      refine fr_iconst (pc := 66) dX1_goOn_66 (by decide) ?_
      exact fr_iret (pc := 67) dX1_goOn_67 (Or.inl rfl) hq
    · refine fr_lookup (tg := 68) (off := 59) (pc := 9) dX1_goOn_9 rfl (by simp only [Op.lookupswitch.offset, if_neg (Ne.symm hc2), if_neg (Ne.symm hc4)]) rfl ?_
      refine fr_aload_n (pc := 68) dX1_goOn_68 rfl rfl ?_
      refine fr_iload_n (pc := 69) dX1_goOn_69 rfl rfl ?_
      refine fr_iload_n (pc := 70) dX1_goOn_70 rfl rfl ?_
      refine fr_inVI (a := 73) (as := [(0, a1), (0, a2)]) (rest := []) (ls' := [(2, 73), (0, a1), (0, a2), (9, 0)]) (c1 := 0) (c2 := 0) (pc := 71) dX1_goOn_71 pl_1_110 rfl ⟨Nat.le_of_ble_eq_true rfl, Nat.le_of_ble_eq_true rfl⟩ rfl rfl rfl s0_73 (Nat.le_of_ble_eq_true rfl) (by omega) rfl rfl (pm_zc _) (hq sc _ (by omega)) (fun r6 M5 hq => ?_)
      refine fr_ifc_eq (tg := 89) (pc := 74) dX1_goOn_74 rfl hq (fun hc7 hq => ?_) (fun hc7 hq => ?_)
      · refine fr_aload_n (pc := 89) dX1_goOn_89 rfl rfl ?_
        refine fr_getr (a := 73) (pc := 90) dX1_goOn_90 rfl pf_1_28 s0_73 rfl rf_73_0 ?_
        refine fr_getr (a := 2) (pc := 93) dX1_goOn_93 rfl pf_1_117 s0_2 rfl rf_2_9 ?_
        refine fr_iload_n (pc := 96) dX1_goOn_96 rfl rfl ?_
        refine fr_iaload (a := 12) (v := gI M5 12 a1) (pc := 97) dX1_goOn_97 rfl s0_12 hb1 rfl ?_
        exact fr_iret (pc := 98) dX1_goOn_98 (Or.inl rfl) hq
      · refine fr_aload_n (pc := 77) dX1_goOn_77 rfl rfl ?_
        refine fr_getr (a := 73) (pc := 78) dX1_goOn_78 rfl pf_1_28 s0_73 rfl rf_73_0 ?_
        refine fr_getr (a := 2) (pc := 81) dX1_goOn_81 rfl pf_1_114 s0_2 rfl rf_2_8 ?_
        refine fr_iload_n (pc := 84) dX1_goOn_84 rfl rfl ?_
        refine fr_iaload (a := 11) (v := gI M5 11 a1) (pc := 85) dX1_goOn_85 rfl s0_11 hb1 rfl ?_
        refine fr_goto (tg := 98) (pc := 86) dX1_goOn_86 rfl ?_
        exact fr_iret (pc := 98) dX1_goOn_98 (Or.inl rfl) hq
theorem k1_comesOutSo_r {a1 a2 : Int} {M : pm_M} {K : Int → pm_M → Prop} (hq : (if a2 = 0 then ((0 ≤ a1 ∧ a1 < 60) ∧ (if gI M 5 a1 = 2 then (if a1 = gI M 73 10 then (if gI M 73 8 = gI M 73 12 then (if gI M 73 11 = 0 then K 1 (upI M 73 8 (w32 ((gI M 73 8) + 1))) else K 0 (upI M 73 8 (w32 ((gI M 73 8) + 1)))) else ((gI M 73 11 = 0 ∨ gI M 73 11 = 1) ∧ K (gI M 73 11) (upI M 73 8 (w32 ((gI M 73 8) + 1))))) else (if gI M 73 8 = gI M 73 12 then K 0 (upI M 73 8 (w32 ((gI M 73 8) + 1))) else K 1 (upI M 73 8 (w32 ((gI M 73 8) + 1))))) else (if a1 = gI M 73 10 then (if gI M 73 8 = gI M 73 12 then (if gI M 73 11 = 0 then K 1 (upI M 73 8 (w32 ((gI M 73 8) + 1))) else K 0 (upI M 73 8 (w32 ((gI M 73 8) + 1)))) else ((gI M 73 11 = 0 ∨ gI M 73 11 = 1) ∧ K (gI M 73 11) (upI M 73 8 (w32 ((gI M 73 8) + 1))))) else (if gI M 73 8 = gI M 73 12 then K 1 (upI M 73 8 (w32 ((gI M 73 8) + 1))) else K 0 (upI M 73 8 (w32 ((gI M 73 8) + 1))))))) else ((0 ≤ a1 ∧ a1 < 60) ∧ (if gI M 5 a1 = 2 then (if a1 = gI M 73 10 then (if gI M 73 8 = gI M 73 12 then (if gI M 73 11 = 0 then K 1 (upI M 73 8 (w32 ((gI M 73 8) + 1))) else K 0 (upI M 73 8 (w32 ((gI M 73 8) + 1)))) else ((gI M 73 11 = 0 ∨ gI M 73 11 = 1) ∧ K (gI M 73 11) (upI M 73 8 (w32 ((gI M 73 8) + 1))))) else (if gI M 73 8 = gI M 73 12 then K 1 (upI M 73 8 (w32 ((gI M 73 8) + 1))) else K 0 (upI M 73 8 (w32 ((gI M 73 8) + 1))))) else (if a1 = gI M 73 10 then (if gI M 73 8 = gI M 73 12 then (if gI M 73 11 = 0 then K 1 (upI M 73 8 (w32 ((gI M 73 8) + 1))) else K 0 (upI M 73 8 (w32 ((gI M 73 8) + 1)))) else ((gI M 73 11 = 0 ∨ gI M 73 11 = 1) ∧ K (gI M 73 11) (upI M 73 8 (w32 ((gI M 73 8) + 1))))) else (if gI M 73 8 = gI M 73 12 then K 0 (upI M 73 8 (w32 ((gI M 73 8) + 1))) else K 1 (upI M 73 8 (w32 ((gI M 73 8) + 1))))))))) : k1_comesOutSo a1 a2 M K := by
  intro sc d hd
  refine fr_iload_n (pc := 0) dX1_comesOutSo_0 rfl rfl ?_
  refine fr_ifc_eq (tg := 8) (pc := 1) dX1_comesOutSo_1 rfl hq (fun hc1 hq => ?_) (fun hc1 hq => ?_)
  · refine fr_iconst (pc := 8) dX1_comesOutSo_8 (by decide) ?_
    refine fr_aload_n (pc := 9) dX1_comesOutSo_9 rfl rfl ?_
    refine fr_getr (a := 73) (pc := 10) dX1_comesOutSo_10 rfl pf_1_28 s0_73 rfl rf_73_0 ?_
    refine fr_getr (a := 2) (pc := 13) dX1_comesOutSo_13 rfl pf_1_91 s0_2 rfl rf_2_2 ?_
    refine fr_iload_n (pc := 16) dX1_comesOutSo_16 rfl rfl ?_
    obtain ⟨hb2, hq⟩ := hq
    refine fr_iaload (a := 5) (v := gI M 5 a1) (pc := 17) dX1_comesOutSo_17 rfl s0_5 hb2 rfl ?_
    refine fr_iconst (pc := 18) dX1_comesOutSo_18 (by decide) ?_
    refine fr_icm_ne (tg := 26) (pc := 19) dX1_comesOutSo_19 rfl hq (fun hc3 hq => ?_) (fun hc3 hq => ?_)
    · refine fr_iconst (pc := 22) dX1_comesOutSo_22 (by decide) ?_
      refine fr_goto (tg := 27) (pc := 23) dX1_comesOutSo_23 rfl ?_
      refine fr_icmF (tg := 34) (pc := 27) dX1_comesOutSo_27 rfl rfl ?_
      refine fr_iconst (pc := 30) dX1_comesOutSo_30 (by decide) ?_
      refine fr_goto (tg := 35) (pc := 31) dX1_comesOutSo_31 rfl ?_
      refine fr_istore_n (ls2 := [(2, 73), (0, a1), (0, a2), (0, 1)]) (pc := 35) dX1_comesOutSo_35 rfl (Nat.le_of_ble_eq_true rfl) rfl ?_
      refine fr_iload_n (pc := 36) dX1_comesOutSo_36 rfl rfl ?_
      refine fr_aload_n (pc := 37) dX1_comesOutSo_37 rfl rfl ?_
      refine fr_getf (a := 73) (i := 10) (v := gI M 73 10) (t := 0) (pc := 38) dX1_comesOutSo_38 rfl pf_1_21 rfl s0_73 rfl rfl ?_
      refine fr_icm_ne (tg := 49) (pc := 41) dX1_comesOutSo_41 rfl hq (fun hc4 hq => ?_) (fun hc4 hq => ?_)
      · refine fr_aload_n (pc := 44) dX1_comesOutSo_44 rfl rfl ?_
        refine fr_getf (a := 73) (i := 11) (v := gI M 73 11) (t := 0) (pc := 45) dX1_comesOutSo_45 rfl pf_1_120 rfl s0_73 rfl rfl ?_
        refine fr_istore_n (ls2 := [(2, 73), (0, a1), (0, a2), (0, gI M 73 11)]) (pc := 48) dX1_comesOutSo_48 rfl (Nat.le_of_ble_eq_true rfl) rfl ?_
        refine fr_aload_n (pc := 49) dX1_comesOutSo_49 rfl rfl ?_
        refine fr_getf (a := 73) (i := 8) (v := gI M 73 8) (t := 0) (pc := 50) dX1_comesOutSo_50 rfl pf_1_79 rfl s0_73 rfl rfl ?_
        refine fr_aload_n (pc := 53) dX1_comesOutSo_53 rfl rfl ?_
        refine fr_getf (a := 73) (i := 12) (v := gI M 73 12) (t := 0) (pc := 54) dX1_comesOutSo_54 rfl pf_1_25 rfl s0_73 rfl rfl ?_
        refine fr_icm_ne (tg := 70) (pc := 57) dX1_comesOutSo_57 rfl hq (fun hc5 hq => ?_) (fun hc5 hq => ?_)
        · refine fr_iload_n (pc := 60) dX1_comesOutSo_60 rfl rfl ?_
          refine fr_ifc_ne (tg := 68) (pc := 61) dX1_comesOutSo_61 rfl hq (fun hc6 hq => ?_) (fun hc6 hq => ?_)
          · refine fr_iconst (pc := 64) dX1_comesOutSo_64 (by decide) ?_
            refine fr_goto (tg := 69) (pc := 65) dX1_comesOutSo_65 rfl ?_
            refine fr_istore_n (ls2 := [(2, 73), (0, a1), (0, a2), (0, 1)]) (pc := 69) dX1_comesOutSo_69 rfl (Nat.le_of_ble_eq_true rfl) rfl ?_
            refine fr_aload_n (pc := 70) dX1_comesOutSo_70 rfl rfl ?_
            refine fr_dup (pc := 71) dX1_comesOutSo_71 pm_t2 ?_
            refine fr_getf (a := 73) (i := 8) (v := gI M 73 8) (t := 0) (pc := 72) dX1_comesOutSo_72 rfl pf_1_79 rfl s0_73 rfl rfl ?_
            refine fr_iconst (pc := 75) dX1_comesOutSo_75 (by decide) ?_
            refine fr_iadd (z := w32 ((gI M 73 8) + 1)) (pc := 76) dX1_comesOutSo_76 rfl ?_
            refine fr_put (a := 73) (i := 8) (pc := 77) dX1_comesOutSo_77 rfl pf_1_79 rfl s0_73 rfl rfl nf_73_8 rfl ?_
            refine fr_iload_n (pc := 80) dX1_comesOutSo_80 rfl rfl ?_
            exact fr_iret (pc := 81) dX1_comesOutSo_81 (Or.inr (Or.inl ⟨rfl, Or.inr rfl⟩)) hq
          · refine fr_iconst (pc := 68) dX1_comesOutSo_68 (by decide) ?_
            refine fr_istore_n (ls2 := [(2, 73), (0, a1), (0, a2), (0, 0)]) (pc := 69) dX1_comesOutSo_69 rfl (Nat.le_of_ble_eq_true rfl) rfl ?_
            refine fr_aload_n (pc := 70) dX1_comesOutSo_70 rfl rfl ?_
            refine fr_dup (pc := 71) dX1_comesOutSo_71 pm_t2 ?_
            refine fr_getf (a := 73) (i := 8) (v := gI M 73 8) (t := 0) (pc := 72) dX1_comesOutSo_72 rfl pf_1_79 rfl s0_73 rfl rfl ?_
            refine fr_iconst (pc := 75) dX1_comesOutSo_75 (by decide) ?_
            refine fr_iadd (z := w32 ((gI M 73 8) + 1)) (pc := 76) dX1_comesOutSo_76 rfl ?_
            refine fr_put (a := 73) (i := 8) (pc := 77) dX1_comesOutSo_77 rfl pf_1_79 rfl s0_73 rfl rfl nf_73_8 rfl ?_
            refine fr_iload_n (pc := 80) dX1_comesOutSo_80 rfl rfl ?_
            exact fr_iret (pc := 81) dX1_comesOutSo_81 (Or.inr (Or.inl ⟨rfl, Or.inl rfl⟩)) hq
        · refine fr_aload_n (pc := 70) dX1_comesOutSo_70 rfl rfl ?_
          refine fr_dup (pc := 71) dX1_comesOutSo_71 pm_t2 ?_
          refine fr_getf (a := 73) (i := 8) (v := gI M 73 8) (t := 0) (pc := 72) dX1_comesOutSo_72 rfl pf_1_79 rfl s0_73 rfl rfl ?_
          refine fr_iconst (pc := 75) dX1_comesOutSo_75 (by decide) ?_
          refine fr_iadd (z := w32 ((gI M 73 8) + 1)) (pc := 76) dX1_comesOutSo_76 rfl ?_
          refine fr_put (a := 73) (i := 8) (pc := 77) dX1_comesOutSo_77 rfl pf_1_79 rfl s0_73 rfl rfl nf_73_8 rfl ?_
          refine fr_iload_n (pc := 80) dX1_comesOutSo_80 rfl rfl ?_
          obtain ⟨hz7, hq⟩ := hq
          exact fr_iret (pc := 81) dX1_comesOutSo_81 (Or.inr (Or.inl ⟨rfl, hz7⟩)) hq
      · refine fr_aload_n (pc := 49) dX1_comesOutSo_49 rfl rfl ?_
        refine fr_getf (a := 73) (i := 8) (v := gI M 73 8) (t := 0) (pc := 50) dX1_comesOutSo_50 rfl pf_1_79 rfl s0_73 rfl rfl ?_
        refine fr_aload_n (pc := 53) dX1_comesOutSo_53 rfl rfl ?_
        refine fr_getf (a := 73) (i := 12) (v := gI M 73 12) (t := 0) (pc := 54) dX1_comesOutSo_54 rfl pf_1_25 rfl s0_73 rfl rfl ?_
        refine fr_icm_ne (tg := 70) (pc := 57) dX1_comesOutSo_57 rfl hq (fun hc8 hq => ?_) (fun hc8 hq => ?_)
        · refine fr_iload_n (pc := 60) dX1_comesOutSo_60 rfl rfl ?_
          refine fr_ifcT (tg := 68) (pc := 61) dX1_comesOutSo_61 rfl rfl ?_
          refine fr_iconst (pc := 68) dX1_comesOutSo_68 (by decide) ?_
          refine fr_istore_n (ls2 := [(2, 73), (0, a1), (0, a2), (0, 0)]) (pc := 69) dX1_comesOutSo_69 rfl (Nat.le_of_ble_eq_true rfl) rfl ?_
          refine fr_aload_n (pc := 70) dX1_comesOutSo_70 rfl rfl ?_
          refine fr_dup (pc := 71) dX1_comesOutSo_71 pm_t2 ?_
          refine fr_getf (a := 73) (i := 8) (v := gI M 73 8) (t := 0) (pc := 72) dX1_comesOutSo_72 rfl pf_1_79 rfl s0_73 rfl rfl ?_
          refine fr_iconst (pc := 75) dX1_comesOutSo_75 (by decide) ?_
          refine fr_iadd (z := w32 ((gI M 73 8) + 1)) (pc := 76) dX1_comesOutSo_76 rfl ?_
          refine fr_put (a := 73) (i := 8) (pc := 77) dX1_comesOutSo_77 rfl pf_1_79 rfl s0_73 rfl rfl nf_73_8 rfl ?_
          refine fr_iload_n (pc := 80) dX1_comesOutSo_80 rfl rfl ?_
          exact fr_iret (pc := 81) dX1_comesOutSo_81 (Or.inr (Or.inl ⟨rfl, Or.inl rfl⟩)) hq
        · refine fr_aload_n (pc := 70) dX1_comesOutSo_70 rfl rfl ?_
          refine fr_dup (pc := 71) dX1_comesOutSo_71 pm_t2 ?_
          refine fr_getf (a := 73) (i := 8) (v := gI M 73 8) (t := 0) (pc := 72) dX1_comesOutSo_72 rfl pf_1_79 rfl s0_73 rfl rfl ?_
          refine fr_iconst (pc := 75) dX1_comesOutSo_75 (by decide) ?_
          refine fr_iadd (z := w32 ((gI M 73 8) + 1)) (pc := 76) dX1_comesOutSo_76 rfl ?_
          refine fr_put (a := 73) (i := 8) (pc := 77) dX1_comesOutSo_77 rfl pf_1_79 rfl s0_73 rfl rfl nf_73_8 rfl ?_
          refine fr_iload_n (pc := 80) dX1_comesOutSo_80 rfl rfl ?_
          exact fr_iret (pc := 81) dX1_comesOutSo_81 (Or.inr (Or.inl ⟨rfl, Or.inr rfl⟩)) hq
    · refine fr_iconst (pc := 26) dX1_comesOutSo_26 (by decide) ?_
      refine fr_icmT (tg := 34) (pc := 27) dX1_comesOutSo_27 rfl rfl ?_
      refine fr_iconst (pc := 34) dX1_comesOutSo_34 (by decide) ?_
      refine fr_istore_n (ls2 := [(2, 73), (0, a1), (0, a2), (0, 0)]) (pc := 35) dX1_comesOutSo_35 rfl (Nat.le_of_ble_eq_true rfl) rfl ?_
      refine fr_iload_n (pc := 36) dX1_comesOutSo_36 rfl rfl ?_
      refine fr_aload_n (pc := 37) dX1_comesOutSo_37 rfl rfl ?_
      refine fr_getf (a := 73) (i := 10) (v := gI M 73 10) (t := 0) (pc := 38) dX1_comesOutSo_38 rfl pf_1_21 rfl s0_73 rfl rfl ?_
      refine fr_icm_ne (tg := 49) (pc := 41) dX1_comesOutSo_41 rfl hq (fun hc9 hq => ?_) (fun hc9 hq => ?_)
      · refine fr_aload_n (pc := 44) dX1_comesOutSo_44 rfl rfl ?_
        refine fr_getf (a := 73) (i := 11) (v := gI M 73 11) (t := 0) (pc := 45) dX1_comesOutSo_45 rfl pf_1_120 rfl s0_73 rfl rfl ?_
        refine fr_istore_n (ls2 := [(2, 73), (0, a1), (0, a2), (0, gI M 73 11)]) (pc := 48) dX1_comesOutSo_48 rfl (Nat.le_of_ble_eq_true rfl) rfl ?_
        refine fr_aload_n (pc := 49) dX1_comesOutSo_49 rfl rfl ?_
        refine fr_getf (a := 73) (i := 8) (v := gI M 73 8) (t := 0) (pc := 50) dX1_comesOutSo_50 rfl pf_1_79 rfl s0_73 rfl rfl ?_
        refine fr_aload_n (pc := 53) dX1_comesOutSo_53 rfl rfl ?_
        refine fr_getf (a := 73) (i := 12) (v := gI M 73 12) (t := 0) (pc := 54) dX1_comesOutSo_54 rfl pf_1_25 rfl s0_73 rfl rfl ?_
        refine fr_icm_ne (tg := 70) (pc := 57) dX1_comesOutSo_57 rfl hq (fun hc10 hq => ?_) (fun hc10 hq => ?_)
        · refine fr_iload_n (pc := 60) dX1_comesOutSo_60 rfl rfl ?_
          refine fr_ifc_ne (tg := 68) (pc := 61) dX1_comesOutSo_61 rfl hq (fun hc11 hq => ?_) (fun hc11 hq => ?_)
          · refine fr_iconst (pc := 64) dX1_comesOutSo_64 (by decide) ?_
            refine fr_goto (tg := 69) (pc := 65) dX1_comesOutSo_65 rfl ?_
            refine fr_istore_n (ls2 := [(2, 73), (0, a1), (0, a2), (0, 1)]) (pc := 69) dX1_comesOutSo_69 rfl (Nat.le_of_ble_eq_true rfl) rfl ?_
            refine fr_aload_n (pc := 70) dX1_comesOutSo_70 rfl rfl ?_
            refine fr_dup (pc := 71) dX1_comesOutSo_71 pm_t2 ?_
            refine fr_getf (a := 73) (i := 8) (v := gI M 73 8) (t := 0) (pc := 72) dX1_comesOutSo_72 rfl pf_1_79 rfl s0_73 rfl rfl ?_
            refine fr_iconst (pc := 75) dX1_comesOutSo_75 (by decide) ?_
            refine fr_iadd (z := w32 ((gI M 73 8) + 1)) (pc := 76) dX1_comesOutSo_76 rfl ?_
            refine fr_put (a := 73) (i := 8) (pc := 77) dX1_comesOutSo_77 rfl pf_1_79 rfl s0_73 rfl rfl nf_73_8 rfl ?_
            refine fr_iload_n (pc := 80) dX1_comesOutSo_80 rfl rfl ?_
            exact fr_iret (pc := 81) dX1_comesOutSo_81 (Or.inr (Or.inl ⟨rfl, Or.inr rfl⟩)) hq
          · refine fr_iconst (pc := 68) dX1_comesOutSo_68 (by decide) ?_
            refine fr_istore_n (ls2 := [(2, 73), (0, a1), (0, a2), (0, 0)]) (pc := 69) dX1_comesOutSo_69 rfl (Nat.le_of_ble_eq_true rfl) rfl ?_
            refine fr_aload_n (pc := 70) dX1_comesOutSo_70 rfl rfl ?_
            refine fr_dup (pc := 71) dX1_comesOutSo_71 pm_t2 ?_
            refine fr_getf (a := 73) (i := 8) (v := gI M 73 8) (t := 0) (pc := 72) dX1_comesOutSo_72 rfl pf_1_79 rfl s0_73 rfl rfl ?_
            refine fr_iconst (pc := 75) dX1_comesOutSo_75 (by decide) ?_
            refine fr_iadd (z := w32 ((gI M 73 8) + 1)) (pc := 76) dX1_comesOutSo_76 rfl ?_
            refine fr_put (a := 73) (i := 8) (pc := 77) dX1_comesOutSo_77 rfl pf_1_79 rfl s0_73 rfl rfl nf_73_8 rfl ?_
            refine fr_iload_n (pc := 80) dX1_comesOutSo_80 rfl rfl ?_
            exact fr_iret (pc := 81) dX1_comesOutSo_81 (Or.inr (Or.inl ⟨rfl, Or.inl rfl⟩)) hq
        · refine fr_aload_n (pc := 70) dX1_comesOutSo_70 rfl rfl ?_
          refine fr_dup (pc := 71) dX1_comesOutSo_71 pm_t2 ?_
          refine fr_getf (a := 73) (i := 8) (v := gI M 73 8) (t := 0) (pc := 72) dX1_comesOutSo_72 rfl pf_1_79 rfl s0_73 rfl rfl ?_
          refine fr_iconst (pc := 75) dX1_comesOutSo_75 (by decide) ?_
          refine fr_iadd (z := w32 ((gI M 73 8) + 1)) (pc := 76) dX1_comesOutSo_76 rfl ?_
          refine fr_put (a := 73) (i := 8) (pc := 77) dX1_comesOutSo_77 rfl pf_1_79 rfl s0_73 rfl rfl nf_73_8 rfl ?_
          refine fr_iload_n (pc := 80) dX1_comesOutSo_80 rfl rfl ?_
          obtain ⟨hz12, hq⟩ := hq
          exact fr_iret (pc := 81) dX1_comesOutSo_81 (Or.inr (Or.inl ⟨rfl, hz12⟩)) hq
      · refine fr_aload_n (pc := 49) dX1_comesOutSo_49 rfl rfl ?_
        refine fr_getf (a := 73) (i := 8) (v := gI M 73 8) (t := 0) (pc := 50) dX1_comesOutSo_50 rfl pf_1_79 rfl s0_73 rfl rfl ?_
        refine fr_aload_n (pc := 53) dX1_comesOutSo_53 rfl rfl ?_
        refine fr_getf (a := 73) (i := 12) (v := gI M 73 12) (t := 0) (pc := 54) dX1_comesOutSo_54 rfl pf_1_25 rfl s0_73 rfl rfl ?_
        refine fr_icm_ne (tg := 70) (pc := 57) dX1_comesOutSo_57 rfl hq (fun hc13 hq => ?_) (fun hc13 hq => ?_)
        · refine fr_iload_n (pc := 60) dX1_comesOutSo_60 rfl rfl ?_
          refine fr_ifcF (tg := 68) (pc := 61) dX1_comesOutSo_61 rfl rfl ?_
          refine fr_iconst (pc := 64) dX1_comesOutSo_64 (by decide) ?_
          refine fr_goto (tg := 69) (pc := 65) dX1_comesOutSo_65 rfl ?_
          refine fr_istore_n (ls2 := [(2, 73), (0, a1), (0, a2), (0, 1)]) (pc := 69) dX1_comesOutSo_69 rfl (Nat.le_of_ble_eq_true rfl) rfl ?_
          refine fr_aload_n (pc := 70) dX1_comesOutSo_70 rfl rfl ?_
          refine fr_dup (pc := 71) dX1_comesOutSo_71 pm_t2 ?_
          refine fr_getf (a := 73) (i := 8) (v := gI M 73 8) (t := 0) (pc := 72) dX1_comesOutSo_72 rfl pf_1_79 rfl s0_73 rfl rfl ?_
          refine fr_iconst (pc := 75) dX1_comesOutSo_75 (by decide) ?_
          refine fr_iadd (z := w32 ((gI M 73 8) + 1)) (pc := 76) dX1_comesOutSo_76 rfl ?_
          refine fr_put (a := 73) (i := 8) (pc := 77) dX1_comesOutSo_77 rfl pf_1_79 rfl s0_73 rfl rfl nf_73_8 rfl ?_
          refine fr_iload_n (pc := 80) dX1_comesOutSo_80 rfl rfl ?_
          exact fr_iret (pc := 81) dX1_comesOutSo_81 (Or.inr (Or.inl ⟨rfl, Or.inr rfl⟩)) hq
        · refine fr_aload_n (pc := 70) dX1_comesOutSo_70 rfl rfl ?_
          refine fr_dup (pc := 71) dX1_comesOutSo_71 pm_t2 ?_
          refine fr_getf (a := 73) (i := 8) (v := gI M 73 8) (t := 0) (pc := 72) dX1_comesOutSo_72 rfl pf_1_79 rfl s0_73 rfl rfl ?_
          refine fr_iconst (pc := 75) dX1_comesOutSo_75 (by decide) ?_
          refine fr_iadd (z := w32 ((gI M 73 8) + 1)) (pc := 76) dX1_comesOutSo_76 rfl ?_
          refine fr_put (a := 73) (i := 8) (pc := 77) dX1_comesOutSo_77 rfl pf_1_79 rfl s0_73 rfl rfl nf_73_8 rfl ?_
          refine fr_iload_n (pc := 80) dX1_comesOutSo_80 rfl rfl ?_
          exact fr_iret (pc := 81) dX1_comesOutSo_81 (Or.inr (Or.inl ⟨rfl, Or.inl rfl⟩)) hq
  · refine fr_iconst (pc := 4) dX1_comesOutSo_4 (by decide) ?_
    refine fr_goto (tg := 9) (pc := 5) dX1_comesOutSo_5 rfl ?_
    refine fr_aload_n (pc := 9) dX1_comesOutSo_9 rfl rfl ?_
    refine fr_getr (a := 73) (pc := 10) dX1_comesOutSo_10 rfl pf_1_28 s0_73 rfl rf_73_0 ?_
    refine fr_getr (a := 2) (pc := 13) dX1_comesOutSo_13 rfl pf_1_91 s0_2 rfl rf_2_2 ?_
    refine fr_iload_n (pc := 16) dX1_comesOutSo_16 rfl rfl ?_
    obtain ⟨hb14, hq⟩ := hq
    refine fr_iaload (a := 5) (v := gI M 5 a1) (pc := 17) dX1_comesOutSo_17 rfl s0_5 hb14 rfl ?_
    refine fr_iconst (pc := 18) dX1_comesOutSo_18 (by decide) ?_
    refine fr_icm_ne (tg := 26) (pc := 19) dX1_comesOutSo_19 rfl hq (fun hc15 hq => ?_) (fun hc15 hq => ?_)
    · refine fr_iconst (pc := 22) dX1_comesOutSo_22 (by decide) ?_
      refine fr_goto (tg := 27) (pc := 23) dX1_comesOutSo_23 rfl ?_
      refine fr_icmT (tg := 34) (pc := 27) dX1_comesOutSo_27 rfl rfl ?_
      refine fr_iconst (pc := 34) dX1_comesOutSo_34 (by decide) ?_
      refine fr_istore_n (ls2 := [(2, 73), (0, a1), (0, a2), (0, 0)]) (pc := 35) dX1_comesOutSo_35 rfl (Nat.le_of_ble_eq_true rfl) rfl ?_
      refine fr_iload_n (pc := 36) dX1_comesOutSo_36 rfl rfl ?_
      refine fr_aload_n (pc := 37) dX1_comesOutSo_37 rfl rfl ?_
      refine fr_getf (a := 73) (i := 10) (v := gI M 73 10) (t := 0) (pc := 38) dX1_comesOutSo_38 rfl pf_1_21 rfl s0_73 rfl rfl ?_
      refine fr_icm_ne (tg := 49) (pc := 41) dX1_comesOutSo_41 rfl hq (fun hc16 hq => ?_) (fun hc16 hq => ?_)
      · refine fr_aload_n (pc := 44) dX1_comesOutSo_44 rfl rfl ?_
        refine fr_getf (a := 73) (i := 11) (v := gI M 73 11) (t := 0) (pc := 45) dX1_comesOutSo_45 rfl pf_1_120 rfl s0_73 rfl rfl ?_
        refine fr_istore_n (ls2 := [(2, 73), (0, a1), (0, a2), (0, gI M 73 11)]) (pc := 48) dX1_comesOutSo_48 rfl (Nat.le_of_ble_eq_true rfl) rfl ?_
        refine fr_aload_n (pc := 49) dX1_comesOutSo_49 rfl rfl ?_
        refine fr_getf (a := 73) (i := 8) (v := gI M 73 8) (t := 0) (pc := 50) dX1_comesOutSo_50 rfl pf_1_79 rfl s0_73 rfl rfl ?_
        refine fr_aload_n (pc := 53) dX1_comesOutSo_53 rfl rfl ?_
        refine fr_getf (a := 73) (i := 12) (v := gI M 73 12) (t := 0) (pc := 54) dX1_comesOutSo_54 rfl pf_1_25 rfl s0_73 rfl rfl ?_
        refine fr_icm_ne (tg := 70) (pc := 57) dX1_comesOutSo_57 rfl hq (fun hc17 hq => ?_) (fun hc17 hq => ?_)
        · refine fr_iload_n (pc := 60) dX1_comesOutSo_60 rfl rfl ?_
          refine fr_ifc_ne (tg := 68) (pc := 61) dX1_comesOutSo_61 rfl hq (fun hc18 hq => ?_) (fun hc18 hq => ?_)
          · refine fr_iconst (pc := 64) dX1_comesOutSo_64 (by decide) ?_
            refine fr_goto (tg := 69) (pc := 65) dX1_comesOutSo_65 rfl ?_
            refine fr_istore_n (ls2 := [(2, 73), (0, a1), (0, a2), (0, 1)]) (pc := 69) dX1_comesOutSo_69 rfl (Nat.le_of_ble_eq_true rfl) rfl ?_
            refine fr_aload_n (pc := 70) dX1_comesOutSo_70 rfl rfl ?_
            refine fr_dup (pc := 71) dX1_comesOutSo_71 pm_t2 ?_
            refine fr_getf (a := 73) (i := 8) (v := gI M 73 8) (t := 0) (pc := 72) dX1_comesOutSo_72 rfl pf_1_79 rfl s0_73 rfl rfl ?_
            refine fr_iconst (pc := 75) dX1_comesOutSo_75 (by decide) ?_
            refine fr_iadd (z := w32 ((gI M 73 8) + 1)) (pc := 76) dX1_comesOutSo_76 rfl ?_
            refine fr_put (a := 73) (i := 8) (pc := 77) dX1_comesOutSo_77 rfl pf_1_79 rfl s0_73 rfl rfl nf_73_8 rfl ?_
            refine fr_iload_n (pc := 80) dX1_comesOutSo_80 rfl rfl ?_
            exact fr_iret (pc := 81) dX1_comesOutSo_81 (Or.inr (Or.inl ⟨rfl, Or.inr rfl⟩)) hq
          · refine fr_iconst (pc := 68) dX1_comesOutSo_68 (by decide) ?_
            refine fr_istore_n (ls2 := [(2, 73), (0, a1), (0, a2), (0, 0)]) (pc := 69) dX1_comesOutSo_69 rfl (Nat.le_of_ble_eq_true rfl) rfl ?_
            refine fr_aload_n (pc := 70) dX1_comesOutSo_70 rfl rfl ?_
            refine fr_dup (pc := 71) dX1_comesOutSo_71 pm_t2 ?_
            refine fr_getf (a := 73) (i := 8) (v := gI M 73 8) (t := 0) (pc := 72) dX1_comesOutSo_72 rfl pf_1_79 rfl s0_73 rfl rfl ?_
            refine fr_iconst (pc := 75) dX1_comesOutSo_75 (by decide) ?_
            refine fr_iadd (z := w32 ((gI M 73 8) + 1)) (pc := 76) dX1_comesOutSo_76 rfl ?_
            refine fr_put (a := 73) (i := 8) (pc := 77) dX1_comesOutSo_77 rfl pf_1_79 rfl s0_73 rfl rfl nf_73_8 rfl ?_
            refine fr_iload_n (pc := 80) dX1_comesOutSo_80 rfl rfl ?_
            exact fr_iret (pc := 81) dX1_comesOutSo_81 (Or.inr (Or.inl ⟨rfl, Or.inl rfl⟩)) hq
        · refine fr_aload_n (pc := 70) dX1_comesOutSo_70 rfl rfl ?_
          refine fr_dup (pc := 71) dX1_comesOutSo_71 pm_t2 ?_
          refine fr_getf (a := 73) (i := 8) (v := gI M 73 8) (t := 0) (pc := 72) dX1_comesOutSo_72 rfl pf_1_79 rfl s0_73 rfl rfl ?_
          refine fr_iconst (pc := 75) dX1_comesOutSo_75 (by decide) ?_
          refine fr_iadd (z := w32 ((gI M 73 8) + 1)) (pc := 76) dX1_comesOutSo_76 rfl ?_
          refine fr_put (a := 73) (i := 8) (pc := 77) dX1_comesOutSo_77 rfl pf_1_79 rfl s0_73 rfl rfl nf_73_8 rfl ?_
          refine fr_iload_n (pc := 80) dX1_comesOutSo_80 rfl rfl ?_
          obtain ⟨hz19, hq⟩ := hq
          exact fr_iret (pc := 81) dX1_comesOutSo_81 (Or.inr (Or.inl ⟨rfl, hz19⟩)) hq
      · refine fr_aload_n (pc := 49) dX1_comesOutSo_49 rfl rfl ?_
        refine fr_getf (a := 73) (i := 8) (v := gI M 73 8) (t := 0) (pc := 50) dX1_comesOutSo_50 rfl pf_1_79 rfl s0_73 rfl rfl ?_
        refine fr_aload_n (pc := 53) dX1_comesOutSo_53 rfl rfl ?_
        refine fr_getf (a := 73) (i := 12) (v := gI M 73 12) (t := 0) (pc := 54) dX1_comesOutSo_54 rfl pf_1_25 rfl s0_73 rfl rfl ?_
        refine fr_icm_ne (tg := 70) (pc := 57) dX1_comesOutSo_57 rfl hq (fun hc20 hq => ?_) (fun hc20 hq => ?_)
        · refine fr_iload_n (pc := 60) dX1_comesOutSo_60 rfl rfl ?_
          refine fr_ifcF (tg := 68) (pc := 61) dX1_comesOutSo_61 rfl rfl ?_
          refine fr_iconst (pc := 64) dX1_comesOutSo_64 (by decide) ?_
          refine fr_goto (tg := 69) (pc := 65) dX1_comesOutSo_65 rfl ?_
          refine fr_istore_n (ls2 := [(2, 73), (0, a1), (0, a2), (0, 1)]) (pc := 69) dX1_comesOutSo_69 rfl (Nat.le_of_ble_eq_true rfl) rfl ?_
          refine fr_aload_n (pc := 70) dX1_comesOutSo_70 rfl rfl ?_
          refine fr_dup (pc := 71) dX1_comesOutSo_71 pm_t2 ?_
          refine fr_getf (a := 73) (i := 8) (v := gI M 73 8) (t := 0) (pc := 72) dX1_comesOutSo_72 rfl pf_1_79 rfl s0_73 rfl rfl ?_
          refine fr_iconst (pc := 75) dX1_comesOutSo_75 (by decide) ?_
          refine fr_iadd (z := w32 ((gI M 73 8) + 1)) (pc := 76) dX1_comesOutSo_76 rfl ?_
          refine fr_put (a := 73) (i := 8) (pc := 77) dX1_comesOutSo_77 rfl pf_1_79 rfl s0_73 rfl rfl nf_73_8 rfl ?_
          refine fr_iload_n (pc := 80) dX1_comesOutSo_80 rfl rfl ?_
          exact fr_iret (pc := 81) dX1_comesOutSo_81 (Or.inr (Or.inl ⟨rfl, Or.inr rfl⟩)) hq
        · refine fr_aload_n (pc := 70) dX1_comesOutSo_70 rfl rfl ?_
          refine fr_dup (pc := 71) dX1_comesOutSo_71 pm_t2 ?_
          refine fr_getf (a := 73) (i := 8) (v := gI M 73 8) (t := 0) (pc := 72) dX1_comesOutSo_72 rfl pf_1_79 rfl s0_73 rfl rfl ?_
          refine fr_iconst (pc := 75) dX1_comesOutSo_75 (by decide) ?_
          refine fr_iadd (z := w32 ((gI M 73 8) + 1)) (pc := 76) dX1_comesOutSo_76 rfl ?_
          refine fr_put (a := 73) (i := 8) (pc := 77) dX1_comesOutSo_77 rfl pf_1_79 rfl s0_73 rfl rfl nf_73_8 rfl ?_
          refine fr_iload_n (pc := 80) dX1_comesOutSo_80 rfl rfl ?_
          exact fr_iret (pc := 81) dX1_comesOutSo_81 (Or.inr (Or.inl ⟨rfl, Or.inl rfl⟩)) hq
    · refine fr_iconst (pc := 26) dX1_comesOutSo_26 (by decide) ?_
      refine fr_icmF (tg := 34) (pc := 27) dX1_comesOutSo_27 rfl rfl ?_
      refine fr_iconst (pc := 30) dX1_comesOutSo_30 (by decide) ?_
      refine fr_goto (tg := 35) (pc := 31) dX1_comesOutSo_31 rfl ?_
      refine fr_istore_n (ls2 := [(2, 73), (0, a1), (0, a2), (0, 1)]) (pc := 35) dX1_comesOutSo_35 rfl (Nat.le_of_ble_eq_true rfl) rfl ?_
      refine fr_iload_n (pc := 36) dX1_comesOutSo_36 rfl rfl ?_
      refine fr_aload_n (pc := 37) dX1_comesOutSo_37 rfl rfl ?_
      refine fr_getf (a := 73) (i := 10) (v := gI M 73 10) (t := 0) (pc := 38) dX1_comesOutSo_38 rfl pf_1_21 rfl s0_73 rfl rfl ?_
      refine fr_icm_ne (tg := 49) (pc := 41) dX1_comesOutSo_41 rfl hq (fun hc21 hq => ?_) (fun hc21 hq => ?_)
      · refine fr_aload_n (pc := 44) dX1_comesOutSo_44 rfl rfl ?_
        refine fr_getf (a := 73) (i := 11) (v := gI M 73 11) (t := 0) (pc := 45) dX1_comesOutSo_45 rfl pf_1_120 rfl s0_73 rfl rfl ?_
        refine fr_istore_n (ls2 := [(2, 73), (0, a1), (0, a2), (0, gI M 73 11)]) (pc := 48) dX1_comesOutSo_48 rfl (Nat.le_of_ble_eq_true rfl) rfl ?_
        refine fr_aload_n (pc := 49) dX1_comesOutSo_49 rfl rfl ?_
        refine fr_getf (a := 73) (i := 8) (v := gI M 73 8) (t := 0) (pc := 50) dX1_comesOutSo_50 rfl pf_1_79 rfl s0_73 rfl rfl ?_
        refine fr_aload_n (pc := 53) dX1_comesOutSo_53 rfl rfl ?_
        refine fr_getf (a := 73) (i := 12) (v := gI M 73 12) (t := 0) (pc := 54) dX1_comesOutSo_54 rfl pf_1_25 rfl s0_73 rfl rfl ?_
        refine fr_icm_ne (tg := 70) (pc := 57) dX1_comesOutSo_57 rfl hq (fun hc22 hq => ?_) (fun hc22 hq => ?_)
        · refine fr_iload_n (pc := 60) dX1_comesOutSo_60 rfl rfl ?_
          refine fr_ifc_ne (tg := 68) (pc := 61) dX1_comesOutSo_61 rfl hq (fun hc23 hq => ?_) (fun hc23 hq => ?_)
          · refine fr_iconst (pc := 64) dX1_comesOutSo_64 (by decide) ?_
            refine fr_goto (tg := 69) (pc := 65) dX1_comesOutSo_65 rfl ?_
            refine fr_istore_n (ls2 := [(2, 73), (0, a1), (0, a2), (0, 1)]) (pc := 69) dX1_comesOutSo_69 rfl (Nat.le_of_ble_eq_true rfl) rfl ?_
            refine fr_aload_n (pc := 70) dX1_comesOutSo_70 rfl rfl ?_
            refine fr_dup (pc := 71) dX1_comesOutSo_71 pm_t2 ?_
            refine fr_getf (a := 73) (i := 8) (v := gI M 73 8) (t := 0) (pc := 72) dX1_comesOutSo_72 rfl pf_1_79 rfl s0_73 rfl rfl ?_
            refine fr_iconst (pc := 75) dX1_comesOutSo_75 (by decide) ?_
            refine fr_iadd (z := w32 ((gI M 73 8) + 1)) (pc := 76) dX1_comesOutSo_76 rfl ?_
            refine fr_put (a := 73) (i := 8) (pc := 77) dX1_comesOutSo_77 rfl pf_1_79 rfl s0_73 rfl rfl nf_73_8 rfl ?_
            refine fr_iload_n (pc := 80) dX1_comesOutSo_80 rfl rfl ?_
            exact fr_iret (pc := 81) dX1_comesOutSo_81 (Or.inr (Or.inl ⟨rfl, Or.inr rfl⟩)) hq
          · refine fr_iconst (pc := 68) dX1_comesOutSo_68 (by decide) ?_
            refine fr_istore_n (ls2 := [(2, 73), (0, a1), (0, a2), (0, 0)]) (pc := 69) dX1_comesOutSo_69 rfl (Nat.le_of_ble_eq_true rfl) rfl ?_
            refine fr_aload_n (pc := 70) dX1_comesOutSo_70 rfl rfl ?_
            refine fr_dup (pc := 71) dX1_comesOutSo_71 pm_t2 ?_
            refine fr_getf (a := 73) (i := 8) (v := gI M 73 8) (t := 0) (pc := 72) dX1_comesOutSo_72 rfl pf_1_79 rfl s0_73 rfl rfl ?_
            refine fr_iconst (pc := 75) dX1_comesOutSo_75 (by decide) ?_
            refine fr_iadd (z := w32 ((gI M 73 8) + 1)) (pc := 76) dX1_comesOutSo_76 rfl ?_
            refine fr_put (a := 73) (i := 8) (pc := 77) dX1_comesOutSo_77 rfl pf_1_79 rfl s0_73 rfl rfl nf_73_8 rfl ?_
            refine fr_iload_n (pc := 80) dX1_comesOutSo_80 rfl rfl ?_
            exact fr_iret (pc := 81) dX1_comesOutSo_81 (Or.inr (Or.inl ⟨rfl, Or.inl rfl⟩)) hq
        · refine fr_aload_n (pc := 70) dX1_comesOutSo_70 rfl rfl ?_
          refine fr_dup (pc := 71) dX1_comesOutSo_71 pm_t2 ?_
          refine fr_getf (a := 73) (i := 8) (v := gI M 73 8) (t := 0) (pc := 72) dX1_comesOutSo_72 rfl pf_1_79 rfl s0_73 rfl rfl ?_
          refine fr_iconst (pc := 75) dX1_comesOutSo_75 (by decide) ?_
          refine fr_iadd (z := w32 ((gI M 73 8) + 1)) (pc := 76) dX1_comesOutSo_76 rfl ?_
          refine fr_put (a := 73) (i := 8) (pc := 77) dX1_comesOutSo_77 rfl pf_1_79 rfl s0_73 rfl rfl nf_73_8 rfl ?_
          refine fr_iload_n (pc := 80) dX1_comesOutSo_80 rfl rfl ?_
          obtain ⟨hz24, hq⟩ := hq
          exact fr_iret (pc := 81) dX1_comesOutSo_81 (Or.inr (Or.inl ⟨rfl, hz24⟩)) hq
      · refine fr_aload_n (pc := 49) dX1_comesOutSo_49 rfl rfl ?_
        refine fr_getf (a := 73) (i := 8) (v := gI M 73 8) (t := 0) (pc := 50) dX1_comesOutSo_50 rfl pf_1_79 rfl s0_73 rfl rfl ?_
        refine fr_aload_n (pc := 53) dX1_comesOutSo_53 rfl rfl ?_
        refine fr_getf (a := 73) (i := 12) (v := gI M 73 12) (t := 0) (pc := 54) dX1_comesOutSo_54 rfl pf_1_25 rfl s0_73 rfl rfl ?_
        refine fr_icm_ne (tg := 70) (pc := 57) dX1_comesOutSo_57 rfl hq (fun hc25 hq => ?_) (fun hc25 hq => ?_)
        · refine fr_iload_n (pc := 60) dX1_comesOutSo_60 rfl rfl ?_
          refine fr_ifcT (tg := 68) (pc := 61) dX1_comesOutSo_61 rfl rfl ?_
          refine fr_iconst (pc := 68) dX1_comesOutSo_68 (by decide) ?_
          refine fr_istore_n (ls2 := [(2, 73), (0, a1), (0, a2), (0, 0)]) (pc := 69) dX1_comesOutSo_69 rfl (Nat.le_of_ble_eq_true rfl) rfl ?_
          refine fr_aload_n (pc := 70) dX1_comesOutSo_70 rfl rfl ?_
          refine fr_dup (pc := 71) dX1_comesOutSo_71 pm_t2 ?_
          refine fr_getf (a := 73) (i := 8) (v := gI M 73 8) (t := 0) (pc := 72) dX1_comesOutSo_72 rfl pf_1_79 rfl s0_73 rfl rfl ?_
          refine fr_iconst (pc := 75) dX1_comesOutSo_75 (by decide) ?_
          refine fr_iadd (z := w32 ((gI M 73 8) + 1)) (pc := 76) dX1_comesOutSo_76 rfl ?_
          refine fr_put (a := 73) (i := 8) (pc := 77) dX1_comesOutSo_77 rfl pf_1_79 rfl s0_73 rfl rfl nf_73_8 rfl ?_
          refine fr_iload_n (pc := 80) dX1_comesOutSo_80 rfl rfl ?_
          exact fr_iret (pc := 81) dX1_comesOutSo_81 (Or.inr (Or.inl ⟨rfl, Or.inl rfl⟩)) hq
        · refine fr_aload_n (pc := 70) dX1_comesOutSo_70 rfl rfl ?_
          refine fr_dup (pc := 71) dX1_comesOutSo_71 pm_t2 ?_
          refine fr_getf (a := 73) (i := 8) (v := gI M 73 8) (t := 0) (pc := 72) dX1_comesOutSo_72 rfl pf_1_79 rfl s0_73 rfl rfl ?_
          refine fr_iconst (pc := 75) dX1_comesOutSo_75 (by decide) ?_
          refine fr_iadd (z := w32 ((gI M 73 8) + 1)) (pc := 76) dX1_comesOutSo_76 rfl ?_
          refine fr_put (a := 73) (i := 8) (pc := 77) dX1_comesOutSo_77 rfl pf_1_79 rfl s0_73 rfl rfl nf_73_8 rfl ?_
          refine fr_iload_n (pc := 80) dX1_comesOutSo_80 rfl rfl ?_
          exact fr_iret (pc := 81) dX1_comesOutSo_81 (Or.inr (Or.inl ⟨rfl, Or.inr rfl⟩)) hq
theorem k5_learn_r {M : pm_M} {K : pm_M → Prop} (hq : k5_learn_2 0 M K) : k5_learn M K := by
  intro sc d hd
  refine fr_iconst (pc := 0) dX5_learn_0 (by decide) ?_
  refine fr_istore_n (ls2 := [(2, 117), (0, 0), (9, 0)]) (pc := 1) dX5_learn_1 rfl (Nat.le_of_ble_eq_true rfl) rfl ?_
  exact hq sc d hd (9, 0) pm_t9
theorem k5_learn_2_r {l1 : Int} {M : pm_M} {K : pm_M → Prop} (hq : (if l1 < gI M 2 16 then ((0 ≤ l1 ∧ l1 < 20) ∧ k6_shownThatDo (gI M 14 l1) 0 M (fun r4 M3 => ((0 ≤ gI M 14 l1 ∧ gI M 14 l1 < 60) ∧ k6_shownThatDo (gI M 14 l1) 1 (upI M3 118 (gI M 14 l1) r4) (fun r7 M6 => k5_learnScores (gI M 14 l1) (upI M6 119 (gI M 14 l1) r7) (fun M8 => k5_learn_2 (w32 (l1 + 1)) M8 K))))) else k5_learn_66 0 M K)) : k5_learn_2 l1 M K := by
  intro sc d hd z2 hz2
  refine fr_iload_n (pc := 2) dX5_learn_2 rfl rfl ?_
  refine fr_aload_n (pc := 3) dX5_learn_3 rfl rfl ?_
  refine fr_getr (a := 117) (pc := 4) dX5_learn_4 rfl pf_5_29 s0_117 rfl rf_117_0 ?_
  refine fr_getf (a := 2) (i := 16) (v := gI M 2 16) (t := 0) (pc := 7) dX5_learn_7 rfl pf_5_37 rfl s0_2 rfl rfl ?_
  refine fr_icm_ge (tg := 64) (pc := 10) dX5_learn_10 rfl hq (fun hc1 hq => ?_) (fun hc1 hq => ?_)
  · refine fr_aload_n (pc := 13) dX5_learn_13 rfl rfl ?_
    refine fr_getr (a := 117) (pc := 14) dX5_learn_14 rfl pf_5_29 s0_117 rfl rf_117_0 ?_
    refine fr_getr (a := 2) (pc := 17) dX5_learn_17 rfl pf_5_43 s0_2 rfl rf_2_11 ?_
    refine fr_iload_n (pc := 20) dX5_learn_20 rfl rfl ?_
    obtain ⟨hb2, hq⟩ := hq
    refine fr_iaload (a := 14) (v := gI M 14 l1) (pc := 21) dX5_learn_21 rfl s0_14 hb2 rfl ?_
    refine fr_istore_n (ls2 := [(2, 117), (0, l1), (0, gI M 14 l1)]) (pc := 22) dX5_learn_22 rfl (Nat.le_of_ble_eq_true rfl) rfl ?_
    refine fr_aload_n (pc := 23) dX5_learn_23 rfl rfl ?_
    refine fr_getr (a := 117) (pc := 24) dX5_learn_24 rfl pf_5_9 s0_117 rfl rf_117_2 ?_
    refine fr_iload_n (pc := 27) dX5_learn_27 rfl rfl ?_
    refine fr_aload_n (pc := 28) dX5_learn_28 rfl rfl ?_
    refine fr_getr (a := 117) (pc := 29) dX5_learn_29 rfl pf_5_33 s0_117 rfl rf_117_1 ?_
    refine fr_iload_n (pc := 32) dX5_learn_32 rfl rfl ?_
    refine fr_iconst (pc := 33) dX5_learn_33 (by decide) ?_
    refine fr_inVI (a := 77) (as := [(0, gI M 14 l1), (0, 0)]) (rest := [(0, gI M 14 l1), (2, 118)]) (ls' := [(2, 77), (0, gI M 14 l1), (0, 0), (9, 0), (9, 0)]) (c1 := 0) (c2 := 0) (pc := 34) dX5_learn_34 pl_5_46 rfl ⟨Nat.le_of_ble_eq_true rfl, Nat.le_of_ble_eq_true rfl⟩ rfl rfl rfl s0_77 (Nat.le_of_ble_eq_true rfl) (by omega) rfl rfl (pm_zc _) (hq sc _ (by omega)) (fun r4 M3 hq => ?_)
    obtain ⟨hb5, hq⟩ := hq
    refine fr_iastore (a := 118) (pc := 37) dX5_learn_37 rfl s0_118 hb5 nr_118 ?_
    refine fr_aload_n (pc := 38) dX5_learn_38 rfl rfl ?_
    refine fr_getr (a := 117) (pc := 39) dX5_learn_39 rfl pf_5_15 s0_117 rfl rf_117_3 ?_
    refine fr_iload_n (pc := 42) dX5_learn_42 rfl rfl ?_
    refine fr_aload_n (pc := 43) dX5_learn_43 rfl rfl ?_
    refine fr_getr (a := 117) (pc := 44) dX5_learn_44 rfl pf_5_33 s0_117 rfl rf_117_1 ?_
    refine fr_iload_n (pc := 47) dX5_learn_47 rfl rfl ?_
    refine fr_iconst (pc := 48) dX5_learn_48 (by decide) ?_
    refine fr_inVI (a := 77) (as := [(0, gI M 14 l1), (0, 1)]) (rest := [(0, gI M 14 l1), (2, 119)]) (ls' := [(2, 77), (0, gI M 14 l1), (0, 1), (9, 0), (9, 0)]) (c1 := 0) (c2 := 0) (pc := 49) dX5_learn_49 pl_5_46 rfl ⟨Nat.le_of_ble_eq_true rfl, Nat.le_of_ble_eq_true rfl⟩ rfl rfl rfl s0_77 (Nat.le_of_ble_eq_true rfl) (by omega) rfl rfl (pm_zc _) (hq sc _ (by omega)) (fun r7 M6 hq => ?_)
    refine fr_iastore (a := 119) (pc := 52) dX5_learn_52 rfl s0_119 hb5 nr_119 ?_
    refine fr_aload_n (pc := 53) dX5_learn_53 rfl rfl ?_
    refine fr_iload_n (pc := 54) dX5_learn_54 rfl rfl ?_
    refine fr_inVV (a := 117) (as := [(0, gI M 14 l1)]) (rest := []) (ls' := [(2, 117), (0, gI M 14 l1), (9, 0), (9, 0), (9, 0), (9, 0), (9, 0)]) (c1 := 0) (c2 := 0) (pc := 55) dX5_learn_55 pl_5_52 rfl ⟨Nat.le_of_ble_eq_true rfl, Nat.le_of_ble_eq_true rfl⟩ rfl rfl rfl s0_117 (Nat.le_of_ble_eq_true rfl) (by omega) rfl rfl (pm_zc _) (hq sc _ (by omega)) (fun M8 hq => ?_)
    refine fr_iinc (z := w32 (l1 + 1)) (ls2 := [(2, 117), (0, w32 (l1 + 1)), (0, gI M 14 l1)]) (pc := 58) dX5_learn_58 (Nat.le_of_ble_eq_true rfl) rfl rfl rfl ?_
    refine fr_goto (tg := 2) (pc := 61) dX5_learn_61 rfl ?_
    exact hq sc d hd (0, gI M 14 l1) pm_t0
  · refine fr_iconst (pc := 64) dX5_learn_64 (by decide) ?_
    refine fr_istore_n (ls2 := [(2, 117), (0, 0), z2]) (pc := 65) dX5_learn_65 rfl (Nat.le_of_ble_eq_true rfl) rfl ?_
    exact hq sc d hd z2 hz2
theorem k5_learn_66_r {l1 : Int} {M : pm_M} {K : pm_M → Prop} (hq : (if l1 < 3 then k5_learnOrder l1 M (fun M2 => k5_learn_66 (w32 (l1 + 1)) M2 K) else K M)) : k5_learn_66 l1 M K := by
  intro sc d hd z2 hz2
  refine fr_iload_n (pc := 66) dX5_learn_66 rfl rfl ?_
  refine fr_iconst (pc := 67) dX5_learn_67 (by decide) ?_
  refine fr_icm_ge (tg := 82) (pc := 68) dX5_learn_68 rfl hq (fun hc1 hq => ?_) (fun hc1 hq => ?_)
  · refine fr_aload_n (pc := 71) dX5_learn_71 rfl rfl ?_
    refine fr_iload_n (pc := 72) dX5_learn_72 rfl rfl ?_
    refine fr_inVV (a := 117) (as := [(0, l1)]) (rest := []) (ls' := [(2, 117), (0, l1), (9, 0), (9, 0), (9, 0), (9, 0), (9, 0)]) (c1 := 0) (c2 := 0) (pc := 73) dX5_learn_73 pl_5_56 rfl ⟨Nat.le_of_ble_eq_true rfl, Nat.le_of_ble_eq_true rfl⟩ rfl rfl rfl s0_117 (Nat.le_of_ble_eq_true rfl) (by omega) rfl rfl (pm_zc _) (hq sc _ (by omega)) (fun M2 hq => ?_)
    refine fr_iinc (z := w32 (l1 + 1)) (ls2 := [(2, 117), (0, w32 (l1 + 1)), z2]) (pc := 76) dX5_learn_76 (Nat.le_of_ble_eq_true rfl) rfl rfl rfl ?_
    refine fr_goto (tg := 66) (pc := 79) dX5_learn_79 rfl ?_
    exact hq sc d hd z2 hz2
  · exact fr_vret (pc := 82) dX5_learn_82 rfl hq
theorem k6_shownThatDo_r {a1 a2 : Int} {M : pm_M} {K : Int → pm_M → Prop} (hq : k6_shownThatDo_5 a1 a2 0 0 M K) : k6_shownThatDo a1 a2 M K := by
  intro sc d hd
  refine fr_iconst (pc := 0) dX6_shownThatDo_0 (by decide) ?_
  refine fr_istore_n (ls2 := [(2, 77), (0, a1), (0, a2), (0, 0), (9, 0)]) (pc := 1) dX6_shownThatDo_1 rfl (Nat.le_of_ble_eq_true rfl) rfl ?_
  refine fr_iconst (pc := 2) dX6_shownThatDo_2 (by decide) ?_
  refine fr_istore (ls2 := [(2, 77), (0, a1), (0, a2), (0, 0), (0, 0)]) (pc := 3) dX6_shownThatDo_3 rfl (Nat.le_of_ble_eq_true rfl) rfl ?_
  exact hq sc d hd
theorem k6_shownThatDo_5_r {l1 l2 l3 l4 : Int} {M : pm_M} {K : Int → pm_M → Prop} (hq : (if l4 < gI M 18 1 then (if l4 < 0 then k6_shownThatDo_5 l1 l2 l3 (w32 (l4 + 1)) M K else ((0 ≤ l4 ∧ l4 < 16) ∧ (if gI M (20 + l4.toNat) 4 = 1 then k6_shownThatDo_5 l1 l2 l3 (w32 (l4 + 1)) M K else (if gI M 82 l4 = l2 then ((0 ≤ l1 ∧ l1 < 60) ∧ (if gI M (101 + l4.toNat) l1 ≤ 0 then k6_shownThatDo_5 l1 l2 l3 (w32 (l4 + 1)) M K else k6_shownThatDo_5 l1 l2 (w32 (l3 + 1)) (w32 (l4 + 1)) M K)) else k6_shownThatDo_5 l1 l2 l3 (w32 (l4 + 1)) M K)))) else K l3 M)) : k6_shownThatDo_5 l1 l2 l3 l4 M K := by
  intro sc d hd
  refine fr_iload (pc := 5) dX6_shownThatDo_5 rfl rfl ?_
  refine fr_aload_n (pc := 7) dX6_shownThatDo_7 rfl rfl ?_
  refine fr_getr (a := 77) (pc := 8) dX6_shownThatDo_8 rfl pf_6_40 s0_77 rfl rf_77_1 ?_
  refine fr_getf (a := 18) (i := 1) (v := gI M 18 1) (t := 0) (pc := 11) dX6_shownThatDo_11 rfl pf_6_69 rfl s0_18 rfl rfl ?_
  refine fr_icm_ge (tg := 61) (pc := 14) dX6_shownThatDo_14 rfl hq (fun hc1 hq => ?_) (fun hc1 hq => ?_)
  · refine fr_aload_n (pc := 17) dX6_shownThatDo_17 rfl rfl ?_
    refine fr_getr (a := 77) (pc := 18) dX6_shownThatDo_18 rfl pf_6_40 s0_77 rfl rf_77_1 ?_
    refine fr_iload (pc := 21) dX6_shownThatDo_21 rfl rfl ?_
    refine fr_inVI (a := 18) (as := [(0, l4)]) (rest := []) (ls' := [(2, 18), (0, l4)]) (c1 := 0) (c2 := 0) (pc := 23) dX6_shownThatDo_23 pl_6_104 rfl ⟨Nat.le_of_ble_eq_true rfl, Nat.le_of_ble_eq_true rfl⟩ rfl rfl rfl s0_18 (Nat.le_of_ble_eq_true rfl) (by omega) rfl rfl (pm_zc _) ?_ (fun y M' h => h)
    refine fr_aload_n (pc := 0) dX8_isShown_0 rfl rfl ?_
    refine fr_iload_n (pc := 1) dX8_isShown_1 rfl rfl ?_
    refine fr_inVI (a := 18) (as := [(0, l4)]) (rest := []) (ls' := [(2, 18), (0, l4)]) (c1 := 0) (c2 := 0) (pc := 2) dX8_isShown_2 pl_8_23 rfl ⟨Nat.le_of_ble_eq_true rfl, Nat.le_of_ble_eq_true rfl⟩ rfl rfl rfl s0_18 (Nat.le_of_ble_eq_true rfl) (by omega) rfl rfl (pm_zc _) ?_ (fun y M' h => h)
    refine fr_iload_n (pc := 0) dX8_hasTest_0 rfl rfl ?_
    refine fr_ifc_lt (tg := 16) (pc := 1) dX8_hasTest_1 rfl hq (fun hc2 hq => ?_) (fun hc2 hq => ?_)
    · refine fr_iconst (pc := 16) dX8_hasTest_16 (by decide) ?_
      refine fr_iret (pc := 17) dX8_hasTest_17 (Or.inr (Or.inl ⟨rfl, Or.inl rfl⟩)) ?_
      refine fr_ifcT (tg := 20) (pc := 5) dX8_isShown_5 rfl rfl ?_
      refine fr_iconst (pc := 20) dX8_isShown_20 (by decide) ?_
      refine fr_iret (pc := 21) dX8_isShown_21 (Or.inr (Or.inl ⟨rfl, Or.inl rfl⟩)) ?_
      refine fr_ifcT (tg := 55) (pc := 26) dX6_shownThatDo_26 rfl rfl ?_
      refine fr_iinc (z := w32 (l4 + 1)) (ls2 := [(2, 77), (0, l1), (0, l2), (0, l3), (0, w32 (l4 + 1))]) (pc := 55) dX6_shownThatDo_55 (Nat.le_of_ble_eq_true rfl) rfl rfl rfl ?_
      refine fr_goto (tg := 5) (pc := 58) dX6_shownThatDo_58 rfl ?_
      exact hq sc d hd
    · refine fr_iload_n (pc := 4) dX8_hasTest_4 rfl rfl ?_
      refine fr_aload_n (pc := 5) dX8_hasTest_5 rfl rfl ?_
      refine fr_getf (a := 18) (i := 1) (v := gI M 18 1) (t := 0) (pc := 6) dX8_hasTest_6 rfl pf_8_16 rfl s0_18 rfl rfl ?_
      refine fr_icmF (tg := 16) (pc := 9) dX8_hasTest_9 (decide_eq_false (by omega)) rfl ?_
      refine fr_iconst (pc := 12) dX8_hasTest_12 (by decide) ?_
      refine fr_goto (tg := 17) (pc := 13) dX8_hasTest_13 rfl ?_
      refine fr_iret (pc := 17) dX8_hasTest_17 (Or.inr (Or.inl ⟨rfl, Or.inr rfl⟩)) ?_
      refine fr_ifcF (tg := 20) (pc := 5) dX8_isShown_5 rfl rfl ?_
      refine fr_aload_n (pc := 8) dX8_isShown_8 rfl rfl ?_
      refine fr_iload_n (pc := 9) dX8_isShown_9 rfl rfl ?_
      refine fr_inVI (a := 18) (as := [(0, l4)]) (rest := []) (ls' := [(2, 18), (0, l4)]) (c1 := 0) (c2 := 0) (pc := 10) dX8_isShown_10 pl_8_27 rfl ⟨Nat.le_of_ble_eq_true rfl, Nat.le_of_ble_eq_true rfl⟩ rfl rfl rfl s0_18 (Nat.le_of_ble_eq_true rfl) (by omega) rfl rfl (pm_zc _) ?_ (fun y M' h => h)
      refine fr_aload_n (pc := 0) dX8_isHeld_0 rfl rfl ?_
      refine fr_getr (a := 18) (pc := 1) dX8_isHeld_1 rfl pf_8_13 s0_18 rfl rf_18_0 ?_
      refine fr_iload_n (pc := 4) dX8_isHeld_4 rfl rfl ?_
      obtain ⟨hb3, hq⟩ := hq
      refine fr_aaload (a := 19) (pc := 5) dX8_isHeld_5 rfl s0_19 hb3 rws_19 ?_
      refine fr_iconst (pc := 6) dX8_isHeld_6 (by decide) ?_
      refine fr_iaload (a := (19 + 1 + l4.toNat)) (v := gI M (20 + l4.toNat) 4) (pc := 7) dX8_isHeld_7 rfl (pm_rowS rwS_19 hb3) (by decide) rfl ?_
      refine fr_iconst (pc := 8) dX8_isHeld_8 (by decide) ?_
      refine fr_icm_ne (tg := 16) (pc := 9) dX8_isHeld_9 rfl hq (fun hc4 hq => ?_) (fun hc4 hq => ?_)
      · refine fr_iconst (pc := 12) dX8_isHeld_12 (by decide) ?_
        refine fr_goto (tg := 17) (pc := 13) dX8_isHeld_13 rfl ?_
        refine fr_iret (pc := 17) dX8_isHeld_17 (Or.inr (Or.inl ⟨rfl, Or.inr rfl⟩)) ?_
        refine fr_ifcT (tg := 20) (pc := 13) dX8_isShown_13 rfl rfl ?_
        refine fr_iconst (pc := 20) dX8_isShown_20 (by decide) ?_
        refine fr_iret (pc := 21) dX8_isShown_21 (Or.inr (Or.inl ⟨rfl, Or.inl rfl⟩)) ?_
        refine fr_ifcT (tg := 55) (pc := 26) dX6_shownThatDo_26 rfl rfl ?_
        refine fr_iinc (z := w32 (l4 + 1)) (ls2 := [(2, 77), (0, l1), (0, l2), (0, l3), (0, w32 (l4 + 1))]) (pc := 55) dX6_shownThatDo_55 (Nat.le_of_ble_eq_true rfl) rfl rfl rfl ?_
        refine fr_goto (tg := 5) (pc := 58) dX6_shownThatDo_58 rfl ?_
        exact hq sc d hd
      · refine fr_iconst (pc := 16) dX8_isHeld_16 (by decide) ?_
        refine fr_iret (pc := 17) dX8_isHeld_17 (Or.inr (Or.inl ⟨rfl, Or.inl rfl⟩)) ?_
        refine fr_ifcF (tg := 20) (pc := 13) dX8_isShown_13 rfl rfl ?_
        refine fr_iconst (pc := 16) dX8_isShown_16 (by decide) ?_
        refine fr_goto (tg := 21) (pc := 17) dX8_isShown_17 rfl ?_
        refine fr_iret (pc := 21) dX8_isShown_21 (Or.inr (Or.inl ⟨rfl, Or.inr rfl⟩)) ?_
        refine fr_ifcF (tg := 55) (pc := 26) dX6_shownThatDo_26 rfl rfl ?_
        refine fr_aload_n (pc := 29) dX6_shownThatDo_29 rfl rfl ?_
        refine fr_getr (a := 77) (pc := 30) dX6_shownThatDo_30 rfl pf_6_24 s0_77 rfl rf_77_7 ?_
        refine fr_iload (pc := 33) dX6_shownThatDo_33 rfl rfl ?_
        refine fr_baload (a := 82) (v := gI M 82 l4) (pc := 35) dX6_shownThatDo_35 rfl s0_82 hb3 (Or.inr rfl) rfl ?_
        refine fr_iload_n (pc := 36) dX6_shownThatDo_36 rfl rfl ?_
        refine fr_icm_ne (tg := 55) (pc := 37) dX6_shownThatDo_37 rfl hq (fun hc5 hq => ?_) (fun hc5 hq => ?_)
        · refine fr_aload_n (pc := 40) dX6_shownThatDo_40 rfl rfl ?_
          refine fr_getr (a := 77) (pc := 41) dX6_shownThatDo_41 rfl pf_6_33 s0_77 rfl rf_77_9 ?_
          refine fr_iload (pc := 44) dX6_shownThatDo_44 rfl rfl ?_
          refine fr_aaload (a := 100) (pc := 46) dX6_shownThatDo_46 rfl s0_100 hb3 rws_100 ?_
          refine fr_iload_n (pc := 47) dX6_shownThatDo_47 rfl rfl ?_
          obtain ⟨hb6, hq⟩ := hq
          refine fr_iaload (a := (100 + 1 + l4.toNat)) (v := gI M (101 + l4.toNat) l1) (pc := 48) dX6_shownThatDo_48 rfl (pm_rowS rwS_100 hb3) hb6 rfl ?_
          refine fr_ifc_le (tg := 55) (pc := 49) dX6_shownThatDo_49 rfl hq (fun hc7 hq => ?_) (fun hc7 hq => ?_)
          · refine fr_iinc (z := w32 (l4 + 1)) (ls2 := [(2, 77), (0, l1), (0, l2), (0, l3), (0, w32 (l4 + 1))]) (pc := 55) dX6_shownThatDo_55 (Nat.le_of_ble_eq_true rfl) rfl rfl rfl ?_
            refine fr_goto (tg := 5) (pc := 58) dX6_shownThatDo_58 rfl ?_
            exact hq sc d hd
          · refine fr_iinc (z := w32 (l3 + 1)) (ls2 := [(2, 77), (0, l1), (0, l2), (0, w32 (l3 + 1)), (0, l4)]) (pc := 52) dX6_shownThatDo_52 (Nat.le_of_ble_eq_true rfl) rfl rfl rfl ?_
            refine fr_iinc (z := w32 (l4 + 1)) (ls2 := [(2, 77), (0, l1), (0, l2), (0, w32 (l3 + 1)), (0, w32 (l4 + 1))]) (pc := 55) dX6_shownThatDo_55 (Nat.le_of_ble_eq_true rfl) rfl rfl rfl ?_
            refine fr_goto (tg := 5) (pc := 58) dX6_shownThatDo_58 rfl ?_
            exact hq sc d hd
        · refine fr_iinc (z := w32 (l4 + 1)) (ls2 := [(2, 77), (0, l1), (0, l2), (0, l3), (0, w32 (l4 + 1))]) (pc := 55) dX6_shownThatDo_55 (Nat.le_of_ble_eq_true rfl) rfl rfl rfl ?_
          refine fr_goto (tg := 5) (pc := 58) dX6_shownThatDo_58 rfl ?_
          exact hq sc d hd
  · refine fr_iload_n (pc := 61) dX6_shownThatDo_61 rfl rfl ?_
    exact fr_iret (pc := 62) dX6_shownThatDo_62 (Or.inl rfl) hq
theorem k5_learnScores_r {a1 : Int} {M : pm_M} {K : pm_M → Prop} (hq : ((0 ≤ a1 ∧ a1 < 60) ∧ (if gI M 77 10 = 0 then k5_keepScore 0 a1 (gI M 118 a1) (gI M 118 a1) M (fun M3 => k5_keepScore 1 a1 (w32 ((gI M 118 a1) * (gI M 118 a1))) (w32 ((gI M 77 11) * (w32 ((gI M 118 a1) + (gI M 119 a1))))) M3 (fun M5 => (if gI M 118 a1 ≤ 0 then (if w32 ((w32 ((gI M 119 a1) + (gI M 77 11))) - (gI M 118 a1)) = 0 then k5_keepScore 2 a1 (w32 ((gI M 118 a1) * (gI M 118 a1))) 1 M5 (fun M9 => K M9) else k5_keepScore 2 a1 (w32 ((gI M 118 a1) * (gI M 118 a1))) (w32 ((w32 ((gI M 119 a1) + (gI M 77 11))) - (gI M 118 a1))) M5 (fun M11 => K M11)) else (if w32 ((w32 ((gI M 119 a1) + (gI M 77 11))) - (gI M 118 a1)) = 0 then k5_keepScore 2 a1 1000 1 M5 (fun M14 => K M14) else k5_keepScore 2 a1 (w32 ((gI M 118 a1) * (gI M 118 a1))) (w32 ((w32 ((gI M 119 a1) + (gI M 77 11))) - (gI M 118 a1))) M5 (fun M16 => K M16))))) else k5_keepScore 0 a1 (w32 ((gI M 118 a1) * (gI M 77 10))) (w32 ((w32 ((gI M 118 a1) * (gI M 77 10))) + (w32 ((gI M 119 a1) * (gI M 77 11))))) M (fun M18 => k5_keepScore 1 a1 (w32 ((gI M 118 a1) * (gI M 118 a1))) (w32 ((gI M 77 11) * (w32 ((gI M 118 a1) + (gI M 119 a1))))) M18 (fun M20 => (if gI M 118 a1 ≤ 0 then (if w32 ((w32 ((gI M 119 a1) + (gI M 77 11))) - (gI M 118 a1)) = 0 then k5_keepScore 2 a1 (w32 ((gI M 118 a1) * (gI M 118 a1))) 1 M20 (fun M24 => K M24) else k5_keepScore 2 a1 (w32 ((gI M 118 a1) * (gI M 118 a1))) (w32 ((w32 ((gI M 119 a1) + (gI M 77 11))) - (gI M 118 a1))) M20 (fun M26 => K M26)) else (if w32 ((w32 ((gI M 119 a1) + (gI M 77 11))) - (gI M 118 a1)) = 0 then k5_keepScore 2 a1 1000 1 M20 (fun M29 => K M29) else k5_keepScore 2 a1 (w32 ((gI M 118 a1) * (gI M 118 a1))) (w32 ((w32 ((gI M 119 a1) + (gI M 77 11))) - (gI M 118 a1))) M20 (fun M31 => K M31)))))))) : k5_learnScores a1 M K := by
  intro sc d hd
  refine fr_aload_n (pc := 0) dX5_learnScores_0 rfl rfl ?_
  refine fr_getr (a := 117) (pc := 1) dX5_learnScores_1 rfl pf_5_9 s0_117 rfl rf_117_2 ?_
  refine fr_iload_n (pc := 4) dX5_learnScores_4 rfl rfl ?_
  obtain ⟨hb1, hq⟩ := hq
  refine fr_iaload (a := 118) (v := gI M 118 a1) (pc := 5) dX5_learnScores_5 rfl s0_118 hb1 rfl ?_
  refine fr_istore_n (ls2 := [(2, 117), (0, a1), (0, gI M 118 a1), (9, 0), (9, 0), (9, 0), (9, 0)]) (pc := 6) dX5_learnScores_6 rfl (Nat.le_of_ble_eq_true rfl) rfl ?_
  refine fr_aload_n (pc := 7) dX5_learnScores_7 rfl rfl ?_
  refine fr_getr (a := 117) (pc := 8) dX5_learnScores_8 rfl pf_5_15 s0_117 rfl rf_117_3 ?_
  refine fr_iload_n (pc := 11) dX5_learnScores_11 rfl rfl ?_
  refine fr_iaload (a := 119) (v := gI M 119 a1) (pc := 12) dX5_learnScores_12 rfl s0_119 hb1 rfl ?_
  refine fr_istore_n (ls2 := [(2, 117), (0, a1), (0, gI M 118 a1), (0, gI M 119 a1), (9, 0), (9, 0), (9, 0)]) (pc := 13) dX5_learnScores_13 rfl (Nat.le_of_ble_eq_true rfl) rfl ?_
  refine fr_aload_n (pc := 14) dX5_learnScores_14 rfl rfl ?_
  refine fr_getr (a := 117) (pc := 15) dX5_learnScores_15 rfl pf_5_33 s0_117 rfl rf_117_1 ?_
  refine fr_getf (a := 77) (i := 11) (v := gI M 77 11) (t := 0) (pc := 18) dX5_learnScores_18 rfl pf_5_59 rfl s0_77 rfl rfl ?_
  refine fr_istore (ls2 := [(2, 117), (0, a1), (0, gI M 118 a1), (0, gI M 119 a1), (0, gI M 77 11), (9, 0), (9, 0)]) (pc := 21) dX5_learnScores_21 rfl (Nat.le_of_ble_eq_true rfl) rfl ?_
  refine fr_aload_n (pc := 23) dX5_learnScores_23 rfl rfl ?_
  refine fr_getr (a := 117) (pc := 24) dX5_learnScores_24 rfl pf_5_33 s0_117 rfl rf_117_1 ?_
  refine fr_getf (a := 77) (i := 10) (v := gI M 77 10) (t := 0) (pc := 27) dX5_learnScores_27 rfl pf_5_62 rfl s0_77 rfl rfl ?_
  refine fr_istore (ls2 := [(2, 117), (0, a1), (0, gI M 118 a1), (0, gI M 119 a1), (0, gI M 77 11), (0, gI M 77 10), (9, 0)]) (pc := 30) dX5_learnScores_30 rfl (Nat.le_of_ble_eq_true rfl) rfl ?_
  refine fr_iload (pc := 32) dX5_learnScores_32 rfl rfl ?_
  refine fr_ifc_ne (tg := 48) (pc := 34) dX5_learnScores_34 rfl hq (fun hc2 hq => ?_) (fun hc2 hq => ?_)
  · refine fr_aload_n (pc := 37) dX5_learnScores_37 rfl rfl ?_
    refine fr_iconst (pc := 38) dX5_learnScores_38 (by decide) ?_
    refine fr_iload_n (pc := 39) dX5_learnScores_39 rfl rfl ?_
    refine fr_iload_n (pc := 40) dX5_learnScores_40 rfl rfl ?_
    refine fr_iload_n (pc := 41) dX5_learnScores_41 rfl rfl ?_
    refine fr_inVV (a := 117) (as := [(0, 0), (0, a1), (0, gI M 118 a1), (0, gI M 118 a1)]) (rest := []) (ls' := [(2, 117), (0, 0), (0, a1), (0, gI M 118 a1), (0, gI M 118 a1), (9, 0)]) (c1 := 0) (c2 := 0) (pc := 42) dX5_learnScores_42 pl_5_65 rfl ⟨Nat.le_of_ble_eq_true rfl, Nat.le_of_ble_eq_true rfl⟩ rfl rfl rfl s0_117 (Nat.le_of_ble_eq_true rfl) (by omega) rfl rfl (pm_zc _) (hq sc _ (by omega)) (fun M3 hq => ?_)
    refine fr_goto (tg := 67) (pc := 45) dX5_learnScores_45 rfl ?_
    refine fr_aload_n (pc := 67) dX5_learnScores_67 rfl rfl ?_
    refine fr_iconst (pc := 68) dX5_learnScores_68 (by decide) ?_
    refine fr_iload_n (pc := 69) dX5_learnScores_69 rfl rfl ?_
    refine fr_iload_n (pc := 70) dX5_learnScores_70 rfl rfl ?_
    refine fr_iload_n (pc := 71) dX5_learnScores_71 rfl rfl ?_
    refine fr_imul (z := w32 ((gI M 118 a1) * (gI M 118 a1))) (pc := 72) dX5_learnScores_72 rfl ?_
    refine fr_iload (pc := 73) dX5_learnScores_73 rfl rfl ?_
    refine fr_iload_n (pc := 75) dX5_learnScores_75 rfl rfl ?_
    refine fr_iload_n (pc := 76) dX5_learnScores_76 rfl rfl ?_
    refine fr_iadd (z := w32 ((gI M 118 a1) + (gI M 119 a1))) (pc := 77) dX5_learnScores_77 rfl ?_
    refine fr_imul (z := w32 ((gI M 77 11) * (w32 ((gI M 118 a1) + (gI M 119 a1))))) (pc := 78) dX5_learnScores_78 rfl ?_
    refine fr_inVV (a := 117) (as := [(0, 1), (0, a1), (0, w32 ((gI M 118 a1) * (gI M 118 a1))), (0, w32 ((gI M 77 11) * (w32 ((gI M 118 a1) + (gI M 119 a1)))))]) (rest := []) (ls' := [(2, 117), (0, 1), (0, a1), (0, w32 ((gI M 118 a1) * (gI M 118 a1))), (0, w32 ((gI M 77 11) * (w32 ((gI M 118 a1) + (gI M 119 a1))))), (9, 0)]) (c1 := 0) (c2 := 0) (pc := 79) dX5_learnScores_79 pl_5_65 rfl ⟨Nat.le_of_ble_eq_true rfl, Nat.le_of_ble_eq_true rfl⟩ rfl rfl rfl s0_117 (Nat.le_of_ble_eq_true rfl) (by omega) rfl rfl (pm_zc _) (hq sc _ (by omega)) (fun M5 hq => ?_)
    refine fr_iload_n (pc := 82) dX5_learnScores_82 rfl rfl ?_
    refine fr_iload (pc := 83) dX5_learnScores_83 rfl rfl ?_
    refine fr_iadd (z := w32 ((gI M 119 a1) + (gI M 77 11))) (pc := 85) dX5_learnScores_85 rfl ?_
    refine fr_iload_n (pc := 86) dX5_learnScores_86 rfl rfl ?_
    refine fr_isub (z := w32 ((w32 ((gI M 119 a1) + (gI M 77 11))) - (gI M 118 a1))) (pc := 87) dX5_learnScores_87 rfl ?_
    refine fr_istore (ls2 := [(2, 117), (0, a1), (0, gI M 118 a1), (0, gI M 119 a1), (0, gI M 77 11), (0, gI M 77 10), (0, w32 ((w32 ((gI M 119 a1) + (gI M 77 11))) - (gI M 118 a1)))]) (pc := 88) dX5_learnScores_88 rfl (Nat.le_of_ble_eq_true rfl) rfl ?_
    refine fr_aload_n (pc := 90) dX5_learnScores_90 rfl rfl ?_
    refine fr_iconst (pc := 91) dX5_learnScores_91 (by decide) ?_
    refine fr_iload_n (pc := 92) dX5_learnScores_92 rfl rfl ?_
    refine fr_iload_n (pc := 93) dX5_learnScores_93 rfl rfl ?_
    refine fr_ifc_le (tg := 108) (pc := 94) dX5_learnScores_94 rfl hq (fun hc7 hq => ?_) (fun hc7 hq => ?_)
    · refine fr_iload_n (pc := 108) dX5_learnScores_108 rfl rfl ?_
      refine fr_iload_n (pc := 109) dX5_learnScores_109 rfl rfl ?_
      refine fr_imul (z := w32 ((gI M 118 a1) * (gI M 118 a1))) (pc := 110) dX5_learnScores_110 rfl ?_
      refine fr_iload (pc := 111) dX5_learnScores_111 rfl rfl ?_
      refine fr_ifc_ne (tg := 120) (pc := 113) dX5_learnScores_113 rfl hq (fun hc8 hq => ?_) (fun hc8 hq => ?_)
      · refine fr_iconst (pc := 116) dX5_learnScores_116 (by decide) ?_
        refine fr_goto (tg := 122) (pc := 117) dX5_learnScores_117 rfl ?_
        refine fr_inVV (a := 117) (as := [(0, 2), (0, a1), (0, w32 ((gI M 118 a1) * (gI M 118 a1))), (0, 1)]) (rest := []) (ls' := [(2, 117), (0, 2), (0, a1), (0, w32 ((gI M 118 a1) * (gI M 118 a1))), (0, 1), (9, 0)]) (c1 := 0) (c2 := 0) (pc := 122) dX5_learnScores_122 pl_5_65 rfl ⟨Nat.le_of_ble_eq_true rfl, Nat.le_of_ble_eq_true rfl⟩ rfl rfl rfl s0_117 (Nat.le_of_ble_eq_true rfl) (by omega) rfl rfl (pm_zc _) (hq sc _ (by omega)) (fun M9 hq => ?_)
        exact fr_vret (pc := 125) dX5_learnScores_125 rfl hq
      · refine fr_iload (pc := 120) dX5_learnScores_120 rfl rfl ?_
        refine fr_inVV (a := 117) (as := [(0, 2), (0, a1), (0, w32 ((gI M 118 a1) * (gI M 118 a1))), (0, w32 ((w32 ((gI M 119 a1) + (gI M 77 11))) - (gI M 118 a1)))]) (rest := []) (ls' := [(2, 117), (0, 2), (0, a1), (0, w32 ((gI M 118 a1) * (gI M 118 a1))), (0, w32 ((w32 ((gI M 119 a1) + (gI M 77 11))) - (gI M 118 a1))), (9, 0)]) (c1 := 0) (c2 := 0) (pc := 122) dX5_learnScores_122 pl_5_65 rfl ⟨Nat.le_of_ble_eq_true rfl, Nat.le_of_ble_eq_true rfl⟩ rfl rfl rfl s0_117 (Nat.le_of_ble_eq_true rfl) (by omega) rfl rfl (pm_zc _) (hq sc _ (by omega)) (fun M11 hq => ?_)
        exact fr_vret (pc := 125) dX5_learnScores_125 rfl hq
    · refine fr_iload (pc := 97) dX5_learnScores_97 rfl rfl ?_
      refine fr_ifc_ne (tg := 108) (pc := 99) dX5_learnScores_99 rfl hq (fun hc13 hq => ?_) (fun hc13 hq => ?_)
      · refine fr_sipush (pc := 102) dX5_learnScores_102 (by decide) ?_
        refine fr_goto (tg := 111) (pc := 105) dX5_learnScores_105 rfl ?_
        refine fr_iload (pc := 111) dX5_learnScores_111 rfl rfl ?_
        refine fr_ifcF (tg := 120) (pc := 113) dX5_learnScores_113 (decide_eq_false (fun z => z hc13)) rfl ?_
        refine fr_iconst (pc := 116) dX5_learnScores_116 (by decide) ?_
        refine fr_goto (tg := 122) (pc := 117) dX5_learnScores_117 rfl ?_
        refine fr_inVV (a := 117) (as := [(0, 2), (0, a1), (0, 1000), (0, 1)]) (rest := []) (ls' := [(2, 117), (0, 2), (0, a1), (0, 1000), (0, 1), (9, 0)]) (c1 := 0) (c2 := 0) (pc := 122) dX5_learnScores_122 pl_5_65 rfl ⟨Nat.le_of_ble_eq_true rfl, Nat.le_of_ble_eq_true rfl⟩ rfl rfl rfl s0_117 (Nat.le_of_ble_eq_true rfl) (by omega) rfl rfl (pm_zc _) (hq sc _ (by omega)) (fun M14 hq => ?_)
        exact fr_vret (pc := 125) dX5_learnScores_125 rfl hq
      · refine fr_iload_n (pc := 108) dX5_learnScores_108 rfl rfl ?_
        refine fr_iload_n (pc := 109) dX5_learnScores_109 rfl rfl ?_
        refine fr_imul (z := w32 ((gI M 118 a1) * (gI M 118 a1))) (pc := 110) dX5_learnScores_110 rfl ?_
        refine fr_iload (pc := 111) dX5_learnScores_111 rfl rfl ?_
        refine fr_ifcT (tg := 120) (pc := 113) dX5_learnScores_113 (decide_eq_true hc13) rfl ?_
        refine fr_iload (pc := 120) dX5_learnScores_120 rfl rfl ?_
        refine fr_inVV (a := 117) (as := [(0, 2), (0, a1), (0, w32 ((gI M 118 a1) * (gI M 118 a1))), (0, w32 ((w32 ((gI M 119 a1) + (gI M 77 11))) - (gI M 118 a1)))]) (rest := []) (ls' := [(2, 117), (0, 2), (0, a1), (0, w32 ((gI M 118 a1) * (gI M 118 a1))), (0, w32 ((w32 ((gI M 119 a1) + (gI M 77 11))) - (gI M 118 a1))), (9, 0)]) (c1 := 0) (c2 := 0) (pc := 122) dX5_learnScores_122 pl_5_65 rfl ⟨Nat.le_of_ble_eq_true rfl, Nat.le_of_ble_eq_true rfl⟩ rfl rfl rfl s0_117 (Nat.le_of_ble_eq_true rfl) (by omega) rfl rfl (pm_zc _) (hq sc _ (by omega)) (fun M16 hq => ?_)
        exact fr_vret (pc := 125) dX5_learnScores_125 rfl hq
  · refine fr_aload_n (pc := 48) dX5_learnScores_48 rfl rfl ?_
    refine fr_iconst (pc := 49) dX5_learnScores_49 (by decide) ?_
    refine fr_iload_n (pc := 50) dX5_learnScores_50 rfl rfl ?_
    refine fr_iload_n (pc := 51) dX5_learnScores_51 rfl rfl ?_
    refine fr_iload (pc := 52) dX5_learnScores_52 rfl rfl ?_
    refine fr_imul (z := w32 ((gI M 118 a1) * (gI M 77 10))) (pc := 54) dX5_learnScores_54 rfl ?_
    refine fr_iload_n (pc := 55) dX5_learnScores_55 rfl rfl ?_
    refine fr_iload (pc := 56) dX5_learnScores_56 rfl rfl ?_
    refine fr_imul (z := w32 ((gI M 118 a1) * (gI M 77 10))) (pc := 58) dX5_learnScores_58 rfl ?_
    refine fr_iload_n (pc := 59) dX5_learnScores_59 rfl rfl ?_
    refine fr_iload (pc := 60) dX5_learnScores_60 rfl rfl ?_
    refine fr_imul (z := w32 ((gI M 119 a1) * (gI M 77 11))) (pc := 62) dX5_learnScores_62 rfl ?_
    refine fr_iadd (z := w32 ((w32 ((gI M 118 a1) * (gI M 77 10))) + (w32 ((gI M 119 a1) * (gI M 77 11))))) (pc := 63) dX5_learnScores_63 rfl ?_
    refine fr_inVV (a := 117) (as := [(0, 0), (0, a1), (0, w32 ((gI M 118 a1) * (gI M 77 10))), (0, w32 ((w32 ((gI M 118 a1) * (gI M 77 10))) + (w32 ((gI M 119 a1) * (gI M 77 11)))))]) (rest := []) (ls' := [(2, 117), (0, 0), (0, a1), (0, w32 ((gI M 118 a1) * (gI M 77 10))), (0, w32 ((w32 ((gI M 118 a1) * (gI M 77 10))) + (w32 ((gI M 119 a1) * (gI M 77 11))))), (9, 0)]) (c1 := 0) (c2 := 0) (pc := 64) dX5_learnScores_64 pl_5_65 rfl ⟨Nat.le_of_ble_eq_true rfl, Nat.le_of_ble_eq_true rfl⟩ rfl rfl rfl s0_117 (Nat.le_of_ble_eq_true rfl) (by omega) rfl rfl (pm_zc _) (hq sc _ (by omega)) (fun M18 hq => ?_)
    refine fr_aload_n (pc := 67) dX5_learnScores_67 rfl rfl ?_
    refine fr_iconst (pc := 68) dX5_learnScores_68 (by decide) ?_
    refine fr_iload_n (pc := 69) dX5_learnScores_69 rfl rfl ?_
    refine fr_iload_n (pc := 70) dX5_learnScores_70 rfl rfl ?_
    refine fr_iload_n (pc := 71) dX5_learnScores_71 rfl rfl ?_
    refine fr_imul (z := w32 ((gI M 118 a1) * (gI M 118 a1))) (pc := 72) dX5_learnScores_72 rfl ?_
    refine fr_iload (pc := 73) dX5_learnScores_73 rfl rfl ?_
    refine fr_iload_n (pc := 75) dX5_learnScores_75 rfl rfl ?_
    refine fr_iload_n (pc := 76) dX5_learnScores_76 rfl rfl ?_
    refine fr_iadd (z := w32 ((gI M 118 a1) + (gI M 119 a1))) (pc := 77) dX5_learnScores_77 rfl ?_
    refine fr_imul (z := w32 ((gI M 77 11) * (w32 ((gI M 118 a1) + (gI M 119 a1))))) (pc := 78) dX5_learnScores_78 rfl ?_
    refine fr_inVV (a := 117) (as := [(0, 1), (0, a1), (0, w32 ((gI M 118 a1) * (gI M 118 a1))), (0, w32 ((gI M 77 11) * (w32 ((gI M 118 a1) + (gI M 119 a1)))))]) (rest := []) (ls' := [(2, 117), (0, 1), (0, a1), (0, w32 ((gI M 118 a1) * (gI M 118 a1))), (0, w32 ((gI M 77 11) * (w32 ((gI M 118 a1) + (gI M 119 a1))))), (9, 0)]) (c1 := 0) (c2 := 0) (pc := 79) dX5_learnScores_79 pl_5_65 rfl ⟨Nat.le_of_ble_eq_true rfl, Nat.le_of_ble_eq_true rfl⟩ rfl rfl rfl s0_117 (Nat.le_of_ble_eq_true rfl) (by omega) rfl rfl (pm_zc _) (hq sc _ (by omega)) (fun M20 hq => ?_)
    refine fr_iload_n (pc := 82) dX5_learnScores_82 rfl rfl ?_
    refine fr_iload (pc := 83) dX5_learnScores_83 rfl rfl ?_
    refine fr_iadd (z := w32 ((gI M 119 a1) + (gI M 77 11))) (pc := 85) dX5_learnScores_85 rfl ?_
    refine fr_iload_n (pc := 86) dX5_learnScores_86 rfl rfl ?_
    refine fr_isub (z := w32 ((w32 ((gI M 119 a1) + (gI M 77 11))) - (gI M 118 a1))) (pc := 87) dX5_learnScores_87 rfl ?_
    refine fr_istore (ls2 := [(2, 117), (0, a1), (0, gI M 118 a1), (0, gI M 119 a1), (0, gI M 77 11), (0, gI M 77 10), (0, w32 ((w32 ((gI M 119 a1) + (gI M 77 11))) - (gI M 118 a1)))]) (pc := 88) dX5_learnScores_88 rfl (Nat.le_of_ble_eq_true rfl) rfl ?_
    refine fr_aload_n (pc := 90) dX5_learnScores_90 rfl rfl ?_
    refine fr_iconst (pc := 91) dX5_learnScores_91 (by decide) ?_
    refine fr_iload_n (pc := 92) dX5_learnScores_92 rfl rfl ?_
    refine fr_iload_n (pc := 93) dX5_learnScores_93 rfl rfl ?_
    refine fr_ifc_le (tg := 108) (pc := 94) dX5_learnScores_94 rfl hq (fun hc22 hq => ?_) (fun hc22 hq => ?_)
    · refine fr_iload_n (pc := 108) dX5_learnScores_108 rfl rfl ?_
      refine fr_iload_n (pc := 109) dX5_learnScores_109 rfl rfl ?_
      refine fr_imul (z := w32 ((gI M 118 a1) * (gI M 118 a1))) (pc := 110) dX5_learnScores_110 rfl ?_
      refine fr_iload (pc := 111) dX5_learnScores_111 rfl rfl ?_
      refine fr_ifc_ne (tg := 120) (pc := 113) dX5_learnScores_113 rfl hq (fun hc23 hq => ?_) (fun hc23 hq => ?_)
      · refine fr_iconst (pc := 116) dX5_learnScores_116 (by decide) ?_
        refine fr_goto (tg := 122) (pc := 117) dX5_learnScores_117 rfl ?_
        refine fr_inVV (a := 117) (as := [(0, 2), (0, a1), (0, w32 ((gI M 118 a1) * (gI M 118 a1))), (0, 1)]) (rest := []) (ls' := [(2, 117), (0, 2), (0, a1), (0, w32 ((gI M 118 a1) * (gI M 118 a1))), (0, 1), (9, 0)]) (c1 := 0) (c2 := 0) (pc := 122) dX5_learnScores_122 pl_5_65 rfl ⟨Nat.le_of_ble_eq_true rfl, Nat.le_of_ble_eq_true rfl⟩ rfl rfl rfl s0_117 (Nat.le_of_ble_eq_true rfl) (by omega) rfl rfl (pm_zc _) (hq sc _ (by omega)) (fun M24 hq => ?_)
        exact fr_vret (pc := 125) dX5_learnScores_125 rfl hq
      · refine fr_iload (pc := 120) dX5_learnScores_120 rfl rfl ?_
        refine fr_inVV (a := 117) (as := [(0, 2), (0, a1), (0, w32 ((gI M 118 a1) * (gI M 118 a1))), (0, w32 ((w32 ((gI M 119 a1) + (gI M 77 11))) - (gI M 118 a1)))]) (rest := []) (ls' := [(2, 117), (0, 2), (0, a1), (0, w32 ((gI M 118 a1) * (gI M 118 a1))), (0, w32 ((w32 ((gI M 119 a1) + (gI M 77 11))) - (gI M 118 a1))), (9, 0)]) (c1 := 0) (c2 := 0) (pc := 122) dX5_learnScores_122 pl_5_65 rfl ⟨Nat.le_of_ble_eq_true rfl, Nat.le_of_ble_eq_true rfl⟩ rfl rfl rfl s0_117 (Nat.le_of_ble_eq_true rfl) (by omega) rfl rfl (pm_zc _) (hq sc _ (by omega)) (fun M26 hq => ?_)
        exact fr_vret (pc := 125) dX5_learnScores_125 rfl hq
    · refine fr_iload (pc := 97) dX5_learnScores_97 rfl rfl ?_
      refine fr_ifc_ne (tg := 108) (pc := 99) dX5_learnScores_99 rfl hq (fun hc28 hq => ?_) (fun hc28 hq => ?_)
      · refine fr_sipush (pc := 102) dX5_learnScores_102 (by decide) ?_
        refine fr_goto (tg := 111) (pc := 105) dX5_learnScores_105 rfl ?_
        refine fr_iload (pc := 111) dX5_learnScores_111 rfl rfl ?_
        refine fr_ifcF (tg := 120) (pc := 113) dX5_learnScores_113 (decide_eq_false (fun z => z hc28)) rfl ?_
        refine fr_iconst (pc := 116) dX5_learnScores_116 (by decide) ?_
        refine fr_goto (tg := 122) (pc := 117) dX5_learnScores_117 rfl ?_
        refine fr_inVV (a := 117) (as := [(0, 2), (0, a1), (0, 1000), (0, 1)]) (rest := []) (ls' := [(2, 117), (0, 2), (0, a1), (0, 1000), (0, 1), (9, 0)]) (c1 := 0) (c2 := 0) (pc := 122) dX5_learnScores_122 pl_5_65 rfl ⟨Nat.le_of_ble_eq_true rfl, Nat.le_of_ble_eq_true rfl⟩ rfl rfl rfl s0_117 (Nat.le_of_ble_eq_true rfl) (by omega) rfl rfl (pm_zc _) (hq sc _ (by omega)) (fun M29 hq => ?_)
        exact fr_vret (pc := 125) dX5_learnScores_125 rfl hq
      · refine fr_iload_n (pc := 108) dX5_learnScores_108 rfl rfl ?_
        refine fr_iload_n (pc := 109) dX5_learnScores_109 rfl rfl ?_
        refine fr_imul (z := w32 ((gI M 118 a1) * (gI M 118 a1))) (pc := 110) dX5_learnScores_110 rfl ?_
        refine fr_iload (pc := 111) dX5_learnScores_111 rfl rfl ?_
        refine fr_ifcT (tg := 120) (pc := 113) dX5_learnScores_113 (decide_eq_true hc28) rfl ?_
        refine fr_iload (pc := 120) dX5_learnScores_120 rfl rfl ?_
        refine fr_inVV (a := 117) (as := [(0, 2), (0, a1), (0, w32 ((gI M 118 a1) * (gI M 118 a1))), (0, w32 ((w32 ((gI M 119 a1) + (gI M 77 11))) - (gI M 118 a1)))]) (rest := []) (ls' := [(2, 117), (0, 2), (0, a1), (0, w32 ((gI M 118 a1) * (gI M 118 a1))), (0, w32 ((w32 ((gI M 119 a1) + (gI M 77 11))) - (gI M 118 a1))), (9, 0)]) (c1 := 0) (c2 := 0) (pc := 122) dX5_learnScores_122 pl_5_65 rfl ⟨Nat.le_of_ble_eq_true rfl, Nat.le_of_ble_eq_true rfl⟩ rfl rfl rfl s0_117 (Nat.le_of_ble_eq_true rfl) (by omega) rfl rfl (pm_zc _) (hq sc _ (by omega)) (fun M31 hq => ?_)
        exact fr_vret (pc := 125) dX5_learnScores_125 rfl hq
theorem k5_keepScore_r {a1 a2 a3 a4 : Int} {M : pm_M} {K : pm_M → Prop} (hq : (if a3 = 0 then ((0 ≤ a1 ∧ a1 < 3) ∧ ((0 ≤ a2 ∧ a2 < 60) ∧ K (upI (upI M (121 + a1.toNat) a2 0) (125 + a1.toNat) a2 1))) else k5_commonDivisor a3 a4 M (fun r5 M4 => ((0 ≤ a1 ∧ a1 < 3) ∧ (if r5 = 0 then ((0 ≤ a2 ∧ a2 < 60) ∧ K (upI (upI M4 (121 + a1.toNat) a2 0) (125 + a1.toNat) a2 1)) else ((0 ≤ a2 ∧ a2 < 60) ∧ K (upI (upI M4 (121 + a1.toNat) a2 (w32 (a3.tdiv r5))) (125 + a1.toNat) a2 (w32 (a4.tdiv r5))))))))) : k5_keepScore a1 a2 a3 a4 M K := by
  intro sc d hd
  refine fr_iload_n (pc := 0) dX5_keepScore_0 rfl rfl ?_
  refine fr_ifc_ne (tg := 8) (pc := 1) dX5_keepScore_1 rfl hq (fun hc1 hq => ?_) (fun hc1 hq => ?_)
  · refine fr_iconst (pc := 4) dX5_keepScore_4 (by decide) ?_
    refine fr_goto (tg := 14) (pc := 5) dX5_keepScore_5 rfl ?_
    refine fr_istore (ls2 := [(2, 117), (0, a1), (0, a2), (0, a3), (0, a4), (0, 0)]) (pc := 14) dX5_keepScore_14 rfl (Nat.le_of_ble_eq_true rfl) rfl ?_
    refine fr_aload_n (pc := 16) dX5_keepScore_16 rfl rfl ?_
    refine fr_getr (a := 117) (pc := 17) dX5_keepScore_17 rfl pf_5_20 s0_117 rfl rf_117_4 ?_
    refine fr_iload_n (pc := 20) dX5_keepScore_20 rfl rfl ?_
    obtain ⟨hb2, hq⟩ := hq
    refine fr_aaload (a := 120) (pc := 21) dX5_keepScore_21 rfl s0_120 hb2 rws_120 ?_
    refine fr_iload_n (pc := 22) dX5_keepScore_22 rfl rfl ?_
    refine fr_iload (pc := 23) dX5_keepScore_23 rfl rfl ?_
    refine fr_ifcF (tg := 32) (pc := 25) dX5_keepScore_25 rfl rfl ?_
    refine fr_iconst (pc := 28) dX5_keepScore_28 (by decide) ?_
    refine fr_goto (tg := 36) (pc := 29) dX5_keepScore_29 rfl ?_
    obtain ⟨hb3, hq⟩ := hq
    refine fr_iastore (a := (120 + 1 + a1.toNat)) (pc := 36) dX5_keepScore_36 rfl (pm_rowS rwS_120 hb2) hb3 (pm_rowN rwN_120 hb2) ?_
    refine fr_aload_n (pc := 37) dX5_keepScore_37 rfl rfl ?_
    refine fr_getr (a := 117) (pc := 38) dX5_keepScore_38 rfl pf_5_23 s0_117 rfl rf_117_5 ?_
    refine fr_iload_n (pc := 41) dX5_keepScore_41 rfl rfl ?_
    refine fr_aaload (a := 124) (pc := 42) dX5_keepScore_42 rfl s0_124 hb2 rws_124 ?_
    refine fr_iload_n (pc := 43) dX5_keepScore_43 rfl rfl ?_
    refine fr_iload (pc := 44) dX5_keepScore_44 rfl rfl ?_
    refine fr_ifcF (tg := 53) (pc := 46) dX5_keepScore_46 rfl rfl ?_
    refine fr_iconst (pc := 49) dX5_keepScore_49 (by decide) ?_
    refine fr_goto (tg := 58) (pc := 50) dX5_keepScore_50 rfl ?_
    refine fr_iastore (a := (124 + 1 + a1.toNat)) (pc := 58) dX5_keepScore_58 rfl (pm_rowS rwS_124 hb2) hb3 (pm_rowN rwN_124 hb2) ?_
    exact fr_vret (pc := 59) dX5_keepScore_59 rfl hq
  · refine fr_iload_n (pc := 8) dX5_keepScore_8 rfl rfl ?_
    refine fr_iload (pc := 9) dX5_keepScore_9 rfl rfl ?_
    refine fr_inSI (as := [(0, a3), (0, a4)]) (rest := []) (ls' := [(0, a3), (0, a4), (9, 0), (9, 0), (9, 0), (9, 0)]) (c1 := 0) (c2 := 0) (pc := 11) dX5_keepScore_11 pl_5_69 rfl ⟨Nat.le_of_ble_eq_true rfl, Nat.le_of_ble_eq_true rfl⟩ rfl rfl  (by omega) rfl rfl (pm_zc _) (hq sc _ (by omega)) (fun r5 M4 hq => ?_)
    refine fr_istore (ls2 := [(2, 117), (0, a1), (0, a2), (0, a3), (0, a4), (0, r5)]) (pc := 14) dX5_keepScore_14 rfl (Nat.le_of_ble_eq_true rfl) rfl ?_
    refine fr_aload_n (pc := 16) dX5_keepScore_16 rfl rfl ?_
    refine fr_getr (a := 117) (pc := 17) dX5_keepScore_17 rfl pf_5_20 s0_117 rfl rf_117_4 ?_
    refine fr_iload_n (pc := 20) dX5_keepScore_20 rfl rfl ?_
    obtain ⟨hb6, hq⟩ := hq
    refine fr_aaload (a := 120) (pc := 21) dX5_keepScore_21 rfl s0_120 hb6 rws_120 ?_
    refine fr_iload_n (pc := 22) dX5_keepScore_22 rfl rfl ?_
    refine fr_iload (pc := 23) dX5_keepScore_23 rfl rfl ?_
    refine fr_ifc_ne (tg := 32) (pc := 25) dX5_keepScore_25 rfl hq (fun hc7 hq => ?_) (fun hc7 hq => ?_)
    · refine fr_iconst (pc := 28) dX5_keepScore_28 (by decide) ?_
      refine fr_goto (tg := 36) (pc := 29) dX5_keepScore_29 rfl ?_
      obtain ⟨hb8, hq⟩ := hq
      refine fr_iastore (a := (120 + 1 + a1.toNat)) (pc := 36) dX5_keepScore_36 rfl (pm_rowS rwS_120 hb6) hb8 (pm_rowN rwN_120 hb6) ?_
      refine fr_aload_n (pc := 37) dX5_keepScore_37 rfl rfl ?_
      refine fr_getr (a := 117) (pc := 38) dX5_keepScore_38 rfl pf_5_23 s0_117 rfl rf_117_5 ?_
      refine fr_iload_n (pc := 41) dX5_keepScore_41 rfl rfl ?_
      refine fr_aaload (a := 124) (pc := 42) dX5_keepScore_42 rfl s0_124 hb6 rws_124 ?_
      refine fr_iload_n (pc := 43) dX5_keepScore_43 rfl rfl ?_
      refine fr_iload (pc := 44) dX5_keepScore_44 rfl rfl ?_
      refine fr_ifcF (tg := 53) (pc := 46) dX5_keepScore_46 (decide_eq_false (fun z => z hc7)) rfl ?_
      refine fr_iconst (pc := 49) dX5_keepScore_49 (by decide) ?_
      refine fr_goto (tg := 58) (pc := 50) dX5_keepScore_50 rfl ?_
      refine fr_iastore (a := (124 + 1 + a1.toNat)) (pc := 58) dX5_keepScore_58 rfl (pm_rowS rwS_124 hb6) hb8 (pm_rowN rwN_124 hb6) ?_
      exact fr_vret (pc := 59) dX5_keepScore_59 rfl hq
    · refine fr_iload_n (pc := 32) dX5_keepScore_32 rfl rfl ?_
      refine fr_iload (pc := 33) dX5_keepScore_33 rfl rfl ?_
      refine fr_idiv (pc := 35) dX5_keepScore_35 hc7 ?_
      obtain ⟨hb9, hq⟩ := hq
      refine fr_iastore (a := (120 + 1 + a1.toNat)) (pc := 36) dX5_keepScore_36 rfl (pm_rowS rwS_120 hb6) hb9 (pm_rowN rwN_120 hb6) ?_
      refine fr_aload_n (pc := 37) dX5_keepScore_37 rfl rfl ?_
      refine fr_getr (a := 117) (pc := 38) dX5_keepScore_38 rfl pf_5_23 s0_117 rfl rf_117_5 ?_
      refine fr_iload_n (pc := 41) dX5_keepScore_41 rfl rfl ?_
      refine fr_aaload (a := 124) (pc := 42) dX5_keepScore_42 rfl s0_124 hb6 rws_124 ?_
      refine fr_iload_n (pc := 43) dX5_keepScore_43 rfl rfl ?_
      refine fr_iload (pc := 44) dX5_keepScore_44 rfl rfl ?_
      refine fr_ifcT (tg := 53) (pc := 46) dX5_keepScore_46 (decide_eq_true hc7) rfl ?_
      refine fr_iload (pc := 53) dX5_keepScore_53 rfl rfl ?_
      refine fr_iload (pc := 55) dX5_keepScore_55 rfl rfl ?_
      refine fr_idiv (pc := 57) dX5_keepScore_57 hc7 ?_
      refine fr_iastore (a := (124 + 1 + a1.toNat)) (pc := 58) dX5_keepScore_58 rfl (pm_rowS rwS_124 hb6) hb9 (pm_rowN rwN_124 hb6) ?_
      exact fr_vret (pc := 59) dX5_keepScore_59 rfl hq
theorem k5_commonDivisor_r {a1 a2 : Int} {M : pm_M} {K : Int → pm_M → Prop} (hq : k5_commonDivisor_7 a1 a2 0 M K) : k5_commonDivisor a1 a2 M K := by
  intro sc d hd
  refine fr_iload_n (pc := 0) dX5_commonDivisor_0 rfl rfl ?_
  refine fr_istore_n (ls2 := [(0, a1), (0, a2), (0, a1), (9, 0), (9, 0), (9, 0)]) (pc := 1) dX5_commonDivisor_1 rfl (Nat.le_of_ble_eq_true rfl) rfl ?_
  refine fr_iload_n (pc := 2) dX5_commonDivisor_2 rfl rfl ?_
  refine fr_istore_n (ls2 := [(0, a1), (0, a2), (0, a1), (0, a2), (9, 0), (9, 0)]) (pc := 3) dX5_commonDivisor_3 rfl (Nat.le_of_ble_eq_true rfl) rfl ?_
  refine fr_iconst (pc := 4) dX5_commonDivisor_4 (by decide) ?_
  refine fr_istore (ls2 := [(0, a1), (0, a2), (0, a1), (0, a2), (0, 0), (9, 0)]) (pc := 5) dX5_commonDivisor_5 rfl (Nat.le_of_ble_eq_true rfl) rfl ?_
  exact hq sc d hd (0, a1) pm_t0 (0, a2) pm_t0 (9, 0) pm_t9
theorem k5_commonDivisor_7_r {l2 l3 l4 : Int} {M : pm_M} {K : Int → pm_M → Prop} (hq : (if l4 < 64 then (if l3 = 0 then K l2 M else k5_commonDivisor_7 l3 (l2.tmod l3) (w32 (l4 + 1)) M K) else K l2 M)) : k5_commonDivisor_7 l2 l3 l4 M K := by
  intro sc d hd z0 hz0 z1 hz1 z5 hz5
  refine fr_iload (pc := 7) dX5_commonDivisor_7 rfl rfl ?_
  refine fr_bipush (pc := 9) dX5_commonDivisor_9 (by decide) ?_
  refine fr_icm_ge (tg := 34) (pc := 11) dX5_commonDivisor_11 rfl hq (fun hc1 hq => ?_) (fun hc1 hq => ?_)
  · refine fr_iload_n (pc := 14) dX5_commonDivisor_14 rfl rfl ?_
    refine fr_ifc_eq (tg := 34) (pc := 15) dX5_commonDivisor_15 rfl hq (fun hc2 hq => ?_) (fun hc2 hq => ?_)
    · refine fr_iload_n (pc := 34) dX5_commonDivisor_34 rfl rfl ?_
      exact fr_iret (pc := 35) dX5_commonDivisor_35 (Or.inl rfl) hq
    · refine fr_iload_n (pc := 18) dX5_commonDivisor_18 rfl rfl ?_
      refine fr_iload_n (pc := 19) dX5_commonDivisor_19 rfl rfl ?_
      refine fr_irem (pc := 20) dX5_commonDivisor_20 hc2 ?_
      refine fr_istore (ls2 := [z0, z1, (0, l2), (0, l3), (0, l4), (0, l2.tmod l3)]) (pc := 21) dX5_commonDivisor_21 rfl (Nat.le_of_ble_eq_true rfl) rfl ?_
      refine fr_iload_n (pc := 23) dX5_commonDivisor_23 rfl rfl ?_
      refine fr_istore_n (ls2 := [z0, z1, (0, l3), (0, l3), (0, l4), (0, l2.tmod l3)]) (pc := 24) dX5_commonDivisor_24 rfl (Nat.le_of_ble_eq_true rfl) (pm_st1z hz1 rfl rfl) ?_
      refine fr_iload (pc := 25) dX5_commonDivisor_25 rfl rfl ?_
      refine fr_istore_n (ls2 := [z0, z1, (0, l3), (0, l2.tmod l3), (0, l4), (0, l2.tmod l3)]) (pc := 27) dX5_commonDivisor_27 rfl (Nat.le_of_ble_eq_true rfl) rfl ?_
      refine fr_iinc (z := w32 (l4 + 1)) (ls2 := [z0, z1, (0, l3), (0, l2.tmod l3), (0, w32 (l4 + 1)), (0, l2.tmod l3)]) (pc := 28) dX5_commonDivisor_28 (Nat.le_of_ble_eq_true rfl) rfl rfl rfl ?_
      refine fr_goto (tg := 7) (pc := 31) dX5_commonDivisor_31 rfl ?_
      exact hq sc d hd z0 hz0 z1 hz1 (0, l2.tmod l3) pm_t0
  · refine fr_iload_n (pc := 34) dX5_commonDivisor_34 rfl rfl ?_
    exact fr_iret (pc := 35) dX5_commonDivisor_35 (Or.inl rfl) hq
theorem k5_learnOrder_r {a1 : Int} {M : pm_M} {K : pm_M → Prop} (hq : ((0 ≤ a1 ∧ a1 < 3) ∧ k5_learnOrder_9 a1 0 M K)) : k5_learnOrder a1 M K := by
  intro sc d hd
  refine fr_aload_n (pc := 0) dX5_learnOrder_0 rfl rfl ?_
  refine fr_getr (a := 117) (pc := 1) dX5_learnOrder_1 rfl pf_5_26 s0_117 rfl rf_117_6 ?_
  refine fr_iload_n (pc := 4) dX5_learnOrder_4 rfl rfl ?_
  obtain ⟨hb1, hq⟩ := hq
  refine fr_aaload (a := 128) (pc := 5) dX5_learnOrder_5 rfl s0_128 hb1 rws_128 ?_
  refine fr_astore_n (ls2 := [(2, 117), (0, a1), (2, ((128 + 1 + a1.toNat : Nat) : Int)), (9, 0), (9, 0), (9, 0), (9, 0)]) (pc := 6) dX5_learnOrder_6 (pm_isA_nat _) (Nat.le_of_ble_eq_true rfl) rfl ?_
  refine fr_iconst (pc := 7) dX5_learnOrder_7 (by decide) ?_
  refine fr_istore_n (ls2 := [(2, 117), (0, a1), (2, ((128 + 1 + a1.toNat : Nat) : Int)), (0, 0), (9, 0), (9, 0), (9, 0)]) (pc := 8) dX5_learnOrder_8 rfl (Nat.le_of_ble_eq_true rfl) rfl ?_
  exact hq sc d hd (9, 0) pm_t9 (9, 0) pm_t9 (9, 0) pm_t9
theorem k5_learnOrder_9_r {l1 l3 : Int} {M : pm_M} {K : pm_M → Prop} (hq : (if l3 < gI M 2 16 then ((0 ≤ l3 ∧ l3 < 20) ∧ k5_learnOrder_37 l1 l3 (gI M 14 l3) l3 l3 M K) else K M)) : k5_learnOrder_9 l1 l3 M K := by
  intro sc d hd z4 hz4 z5 hz5 z6 hz6
  refine fr_iload_n (pc := 9) dX5_learnOrder_9 rfl rfl ?_
  refine fr_aload_n (pc := 10) dX5_learnOrder_10 rfl rfl ?_
  refine fr_getr (a := 117) (pc := 11) dX5_learnOrder_11 rfl pf_5_29 s0_117 rfl rf_117_0 ?_
  refine fr_getf (a := 2) (i := 16) (v := gI M 2 16) (t := 0) (pc := 14) dX5_learnOrder_14 rfl pf_5_37 rfl s0_2 rfl rfl ?_
  refine fr_icm_ge (tg := 92) (pc := 17) dX5_learnOrder_17 rfl hq (fun hc1 hq => ?_) (fun hc1 hq => ?_)
  · refine fr_aload_n (pc := 20) dX5_learnOrder_20 rfl rfl ?_
    refine fr_getr (a := 117) (pc := 21) dX5_learnOrder_21 rfl pf_5_29 s0_117 rfl rf_117_0 ?_
    refine fr_getr (a := 2) (pc := 24) dX5_learnOrder_24 rfl pf_5_43 s0_2 rfl rf_2_11 ?_
    refine fr_iload_n (pc := 27) dX5_learnOrder_27 rfl rfl ?_
    obtain ⟨hb2, hq⟩ := hq
    refine fr_iaload (a := 14) (v := gI M 14 l3) (pc := 28) dX5_learnOrder_28 rfl s0_14 hb2 rfl ?_
    refine fr_istore (ls2 := [(2, 117), (0, l1), (2, ((128 + 1 + l1.toNat : Nat) : Int)), (0, l3), (0, gI M 14 l3), z5, z6]) (pc := 29) dX5_learnOrder_29 rfl (Nat.le_of_ble_eq_true rfl) rfl ?_
    refine fr_iload_n (pc := 31) dX5_learnOrder_31 rfl rfl ?_
    refine fr_istore (ls2 := [(2, 117), (0, l1), (2, ((128 + 1 + l1.toNat : Nat) : Int)), (0, l3), (0, gI M 14 l3), (0, l3), z6]) (pc := 32) dX5_learnOrder_32 rfl (Nat.le_of_ble_eq_true rfl) rfl ?_
    refine fr_iload_n (pc := 34) dX5_learnOrder_34 rfl rfl ?_
    refine fr_istore (ls2 := [(2, 117), (0, l1), (2, ((128 + 1 + l1.toNat : Nat) : Int)), (0, l3), (0, gI M 14 l3), (0, l3), (0, l3)]) (pc := 35) dX5_learnOrder_35 rfl (Nat.le_of_ble_eq_true rfl) rfl ?_
    exact hq sc d hd
  · exact fr_vret (pc := 92) dX5_learnOrder_92 rfl hq
theorem k5_learnOrder_37_r {l1 l3 l4 l5 l6 : Int} {M : pm_M} {K : pm_M → Prop} (hq : (if l6 ≤ 0 then ((0 ≤ l1 ∧ l1 < 3) ∧ ((0 ≤ l5 ∧ l5 < 20) ∧ k5_learnOrder_9 l1 (w32 (l3 + 1)) (upI M (129 + l1.toNat) l5 l4) K)) else ((0 ≤ l1 ∧ l1 < 3) ∧ ((0 ≤ w32 (l6 - 1) ∧ w32 (l6 - 1) < 20) ∧ k5_scoresMore l1 l4 (gI M (129 + l1.toNat) (w32 (l6 - 1))) M (fun r7 M6 => (if r7 = 0 then ((0 ≤ l5 ∧ l5 < 20) ∧ k5_learnOrder_9 l1 (w32 (l3 + 1)) (upI M6 (129 + l1.toNat) l5 l4) K) else ((0 ≤ l6 ∧ l6 < 20) ∧ k5_learnOrder_37 l1 l3 l4 (w32 (l6 - 1)) (w32 (l6 + (-1))) (upI M6 (129 + l1.toNat) l6 (gI M6 (129 + l1.toNat) (w32 (l6 - 1)))) K))))))) : k5_learnOrder_37 l1 l3 l4 l5 l6 M K := by
  intro sc d hd
  refine fr_iload (pc := 37) dX5_learnOrder_37 rfl rfl ?_
  refine fr_ifc_le (tg := 80) (pc := 39) dX5_learnOrder_39 rfl hq (fun hc1 hq => ?_) (fun hc1 hq => ?_)
  · refine fr_aload_n (pc := 80) dX5_learnOrder_80 rfl (pm_isA_nat _) ?_
    refine fr_iload (pc := 81) dX5_learnOrder_81 rfl rfl ?_
    refine fr_iload (pc := 83) dX5_learnOrder_83 rfl rfl ?_
    obtain ⟨hb2, hq⟩ := hq
    obtain ⟨hb3, hq⟩ := hq
    refine fr_iastore (a := (128 + 1 + l1.toNat)) (pc := 85) dX5_learnOrder_85 rfl (pm_rowS rwS_128 hb2) hb3 (pm_rowN rwN_128 hb2) ?_
    refine fr_iinc (z := w32 (l3 + 1)) (ls2 := [(2, 117), (0, l1), (2, ((128 + 1 + l1.toNat : Nat) : Int)), (0, w32 (l3 + 1)), (0, l4), (0, l5), (0, l6)]) (pc := 86) dX5_learnOrder_86 (Nat.le_of_ble_eq_true rfl) rfl rfl rfl ?_
    refine fr_goto (tg := 9) (pc := 89) dX5_learnOrder_89 rfl ?_
    exact hq sc d hd (0, l4) pm_t0 (0, l5) pm_t0 (0, l6) pm_t0
  · refine fr_aload_n (pc := 42) dX5_learnOrder_42 rfl rfl ?_
    refine fr_iload_n (pc := 43) dX5_learnOrder_43 rfl rfl ?_
    refine fr_iload (pc := 44) dX5_learnOrder_44 rfl rfl ?_
    refine fr_aload_n (pc := 46) dX5_learnOrder_46 rfl (pm_isA_nat _) ?_
    refine fr_iload (pc := 47) dX5_learnOrder_47 rfl rfl ?_
    refine fr_iconst (pc := 49) dX5_learnOrder_49 (by decide) ?_
    refine fr_isub (z := w32 (l6 - 1)) (pc := 50) dX5_learnOrder_50 rfl ?_
    obtain ⟨hb4, hq⟩ := hq
    obtain ⟨hb5, hq⟩ := hq
    refine fr_iaload (a := (128 + 1 + l1.toNat)) (v := gI M (129 + l1.toNat) (w32 (l6 - 1))) (pc := 51) dX5_learnOrder_51 rfl (pm_rowS rwS_128 hb4) hb5 rfl ?_
    refine fr_inVI (a := 117) (as := [(0, l1), (0, l4), (0, gI M (129 + l1.toNat) (w32 (l6 - 1)))]) (rest := []) (ls' := [(2, 117), (0, l1), (0, l4), (0, gI M (129 + l1.toNat) (w32 (l6 - 1))), (9, 0), (9, 0)]) (c1 := 0) (c2 := 0) (pc := 52) dX5_learnOrder_52 pl_5_73 rfl ⟨Nat.le_of_ble_eq_true rfl, Nat.le_of_ble_eq_true rfl⟩ rfl rfl rfl s0_117 (Nat.le_of_ble_eq_true rfl) (by omega) rfl rfl (pm_zc _) (hq sc _ (by omega)) (fun r7 M6 hq => ?_)
    refine fr_ifc_eq (tg := 80) (pc := 55) dX5_learnOrder_55 rfl hq (fun hc8 hq => ?_) (fun hc8 hq => ?_)
    · refine fr_aload_n (pc := 80) dX5_learnOrder_80 rfl (pm_isA_nat _) ?_
      refine fr_iload (pc := 81) dX5_learnOrder_81 rfl rfl ?_
      refine fr_iload (pc := 83) dX5_learnOrder_83 rfl rfl ?_
      obtain ⟨hb9, hq⟩ := hq
      refine fr_iastore (a := (128 + 1 + l1.toNat)) (pc := 85) dX5_learnOrder_85 rfl (pm_rowS rwS_128 hb4) hb9 (pm_rowN rwN_128 hb4) ?_
      refine fr_iinc (z := w32 (l3 + 1)) (ls2 := [(2, 117), (0, l1), (2, ((128 + 1 + l1.toNat : Nat) : Int)), (0, w32 (l3 + 1)), (0, l4), (0, l5), (0, l6)]) (pc := 86) dX5_learnOrder_86 (Nat.le_of_ble_eq_true rfl) rfl rfl rfl ?_
      refine fr_goto (tg := 9) (pc := 89) dX5_learnOrder_89 rfl ?_
      exact hq sc d hd (0, l4) pm_t0 (0, l5) pm_t0 (0, l6) pm_t0
    · refine fr_aload_n (pc := 58) dX5_learnOrder_58 rfl (pm_isA_nat _) ?_
      refine fr_iload (pc := 59) dX5_learnOrder_59 rfl rfl ?_
      refine fr_aload_n (pc := 61) dX5_learnOrder_61 rfl (pm_isA_nat _) ?_
      refine fr_iload (pc := 62) dX5_learnOrder_62 rfl rfl ?_
      refine fr_iconst (pc := 64) dX5_learnOrder_64 (by decide) ?_
      refine fr_isub (z := w32 (l6 - 1)) (pc := 65) dX5_learnOrder_65 rfl ?_
      refine fr_iaload (a := (128 + 1 + l1.toNat)) (v := gI M6 (129 + l1.toNat) (w32 (l6 - 1))) (pc := 66) dX5_learnOrder_66 rfl (pm_rowS rwS_128 hb4) hb5 rfl ?_
      obtain ⟨hb10, hq⟩ := hq
      refine fr_iastore (a := (128 + 1 + l1.toNat)) (pc := 67) dX5_learnOrder_67 rfl (pm_rowS rwS_128 hb4) hb10 (pm_rowN rwN_128 hb4) ?_
      refine fr_iload (pc := 68) dX5_learnOrder_68 rfl rfl ?_
      refine fr_iconst (pc := 70) dX5_learnOrder_70 (by decide) ?_
      refine fr_isub (z := w32 (l6 - 1)) (pc := 71) dX5_learnOrder_71 rfl ?_
      refine fr_istore (ls2 := [(2, 117), (0, l1), (2, ((128 + 1 + l1.toNat : Nat) : Int)), (0, l3), (0, l4), (0, w32 (l6 - 1)), (0, l6)]) (pc := 72) dX5_learnOrder_72 rfl (Nat.le_of_ble_eq_true rfl) rfl ?_
      refine fr_iinc (z := w32 (l6 + (-1))) (ls2 := [(2, 117), (0, l1), (2, ((128 + 1 + l1.toNat : Nat) : Int)), (0, l3), (0, l4), (0, w32 (l6 - 1)), (0, w32 (l6 + (-1)))]) (pc := 74) dX5_learnOrder_74 (Nat.le_of_ble_eq_true rfl) rfl rfl rfl ?_
      refine fr_goto (tg := 37) (pc := 77) dX5_learnOrder_77 rfl ?_
      exact hq sc d hd
theorem k5_scoresMore_r {a1 a2 a3 : Int} {M : pm_M} {K : Int → pm_M → Prop} (hq : ((0 ≤ a1 ∧ a1 < 3) ∧ ((0 ≤ a2 ∧ a2 < 60) ∧ ((0 ≤ a3 ∧ a3 < 60) ∧ (if w32 ((gI M (121 + a1.toNat) a2) * (gI M (125 + a1.toNat) a3)) ≤ w32 ((gI M (121 + a1.toNat) a3) * (gI M (125 + a1.toNat) a2)) then K 0 M else K 1 M))))) : k5_scoresMore a1 a2 a3 M K := by
  intro sc d hd
  refine fr_aload_n (pc := 0) dX5_scoresMore_0 rfl rfl ?_
  refine fr_getr (a := 117) (pc := 1) dX5_scoresMore_1 rfl pf_5_20 s0_117 rfl rf_117_4 ?_
  refine fr_iload_n (pc := 4) dX5_scoresMore_4 rfl rfl ?_
  obtain ⟨hb1, hq⟩ := hq
  refine fr_aaload (a := 120) (pc := 5) dX5_scoresMore_5 rfl s0_120 hb1 rws_120 ?_
  refine fr_astore (ls2 := [(2, 117), (0, a1), (0, a2), (0, a3), (2, ((120 + 1 + a1.toNat : Nat) : Int)), (9, 0)]) (pc := 6) dX5_scoresMore_6 (pm_isA_nat _) (Nat.le_of_ble_eq_true rfl) rfl ?_
  refine fr_aload_n (pc := 8) dX5_scoresMore_8 rfl rfl ?_
  refine fr_getr (a := 117) (pc := 9) dX5_scoresMore_9 rfl pf_5_23 s0_117 rfl rf_117_5 ?_
  refine fr_iload_n (pc := 12) dX5_scoresMore_12 rfl rfl ?_
  refine fr_aaload (a := 124) (pc := 13) dX5_scoresMore_13 rfl s0_124 hb1 rws_124 ?_
  refine fr_astore (ls2 := [(2, 117), (0, a1), (0, a2), (0, a3), (2, ((120 + 1 + a1.toNat : Nat) : Int)), (2, ((124 + 1 + a1.toNat : Nat) : Int))]) (pc := 14) dX5_scoresMore_14 (pm_isA_nat _) (Nat.le_of_ble_eq_true rfl) rfl ?_
  refine fr_aload (pc := 16) dX5_scoresMore_16 rfl (pm_isA_nat _) ?_
  refine fr_iload_n (pc := 18) dX5_scoresMore_18 rfl rfl ?_
  obtain ⟨hb2, hq⟩ := hq
  refine fr_iaload (a := (120 + 1 + a1.toNat)) (v := gI M (121 + a1.toNat) a2) (pc := 19) dX5_scoresMore_19 rfl (pm_rowS rwS_120 hb1) hb2 rfl ?_
  refine fr_aload (pc := 20) dX5_scoresMore_20 rfl (pm_isA_nat _) ?_
  refine fr_iload_n (pc := 22) dX5_scoresMore_22 rfl rfl ?_
  obtain ⟨hb3, hq⟩ := hq
  refine fr_iaload (a := (124 + 1 + a1.toNat)) (v := gI M (125 + a1.toNat) a3) (pc := 23) dX5_scoresMore_23 rfl (pm_rowS rwS_124 hb1) hb3 rfl ?_
  refine fr_imul (z := w32 ((gI M (121 + a1.toNat) a2) * (gI M (125 + a1.toNat) a3))) (pc := 24) dX5_scoresMore_24 rfl ?_
  refine fr_aload (pc := 25) dX5_scoresMore_25 rfl (pm_isA_nat _) ?_
  refine fr_iload_n (pc := 27) dX5_scoresMore_27 rfl rfl ?_
  refine fr_iaload (a := (120 + 1 + a1.toNat)) (v := gI M (121 + a1.toNat) a3) (pc := 28) dX5_scoresMore_28 rfl (pm_rowS rwS_120 hb1) hb3 rfl ?_
  refine fr_aload (pc := 29) dX5_scoresMore_29 rfl (pm_isA_nat _) ?_
  refine fr_iload_n (pc := 31) dX5_scoresMore_31 rfl rfl ?_
  refine fr_iaload (a := (124 + 1 + a1.toNat)) (v := gI M (125 + a1.toNat) a2) (pc := 32) dX5_scoresMore_32 rfl (pm_rowS rwS_124 hb1) hb2 rfl ?_
  refine fr_imul (z := w32 ((gI M (121 + a1.toNat) a3) * (gI M (125 + a1.toNat) a2))) (pc := 33) dX5_scoresMore_33 rfl ?_
  refine fr_icm_le (tg := 41) (pc := 34) dX5_scoresMore_34 rfl hq (fun hc4 hq => ?_) (fun hc4 hq => ?_)
  · refine fr_iconst (pc := 41) dX5_scoresMore_41 (by decide) ?_
    exact fr_iret (pc := 42) dX5_scoresMore_42 (Or.inr (Or.inl ⟨rfl, Or.inl rfl⟩)) hq
  · refine fr_iconst (pc := 37) dX5_scoresMore_37 (by decide) ?_
    refine fr_goto (tg := 42) (pc := 38) dX5_scoresMore_38 rfl ?_
    exact fr_iret (pc := 42) dX5_scoresMore_42 (Or.inr (Or.inl ⟨rfl, Or.inr rfl⟩)) hq
theorem k11_done_r {a1 a2 : Int} {M : pm_M} {K : Int → pm_M → Prop} (hq : k11_hasRun a1 M (fun r2 M1 => (if r2 = 0 then K (-1) M1 else (if a2 < 0 then K (-1) M1 else (if a2 < gI M1 2 15 then ((0 ≤ a2 ∧ a2 < 60) ∧ (if gI M1 3 a2 ≤ 3 then ((0 ≤ a1 ∧ a1 < 16) ∧ K (gI M1 (101 + a1.toNat) a2) M1) else K (-1) M1)) else K (-1) M1))))) : k11_done a1 a2 M K := by
  intro sc d hd
  refine fr_aload_n (pc := 0) dX11_done_0 rfl rfl ?_
  refine fr_iload_n (pc := 1) dX11_done_1 rfl rfl ?_
  refine fr_inVI (a := 0) (as := [(0, a1)]) (rest := []) (ls' := [(2, 0), (0, a1)]) (c1 := 0) (c2 := 0) (pc := 2) dX11_done_2 pl_11_170 rfl ⟨Nat.le_of_ble_eq_true rfl, Nat.le_of_ble_eq_true rfl⟩ rfl rfl rfl s0_0 (Nat.le_of_ble_eq_true rfl) (by omega) rfl rfl (pm_zc _) (hq sc _ (by omega)) (fun r2 M1 hq => ?_)
  refine fr_ifc_eq (tg := 19) (pc := 5) dX11_done_5 rfl hq (fun hc3 hq => ?_) (fun hc3 hq => ?_)
  · refine fr_iconst (pc := 19) dX11_done_19 (by decide) ?_
    exact fr_iret (pc := 20) dX11_done_20 (Or.inl rfl) hq
  · refine fr_aload_n (pc := 8) dX11_done_8 rfl rfl ?_
    refine fr_getr (a := 0) (pc := 9) dX11_done_9 rfl pf_11_16 s0_0 rfl rf_0_4 ?_
    refine fr_iload_n (pc := 12) dX11_done_12 rfl rfl ?_
    refine fr_inVI (a := 2) (as := [(0, a2)]) (rest := []) (ls' := [(2, 2), (0, a2)]) (c1 := 0) (c2 := 0) (pc := 13) dX11_done_13 pl_11_186 rfl ⟨Nat.le_of_ble_eq_true rfl, Nat.le_of_ble_eq_true rfl⟩ rfl rfl rfl s0_2 (Nat.le_of_ble_eq_true rfl) (by omega) rfl rfl (pm_zc _) ?_ (fun y M' h => h)
    refine fr_aload_n (pc := 0) dX0_hasStatement_0 rfl rfl ?_
    refine fr_iload_n (pc := 1) dX0_hasStatement_1 rfl rfl ?_
    refine fr_inVI (a := 2) (as := [(0, a2)]) (rest := []) (ls' := [(2, 2), (0, a2)]) (c1 := 0) (c2 := 0) (pc := 2) dX0_hasStatement_2 pl_0_97 rfl ⟨Nat.le_of_ble_eq_true rfl, Nat.le_of_ble_eq_true rfl⟩ rfl rfl rfl s0_2 (Nat.le_of_ble_eq_true rfl) (by omega) rfl rfl (pm_zc _) ?_ (fun y M' h => h)
    refine fr_iload_n (pc := 0) dX0_hasNode_0 rfl rfl ?_
    refine fr_ifc_lt (tg := 16) (pc := 1) dX0_hasNode_1 rfl hq (fun hc4 hq => ?_) (fun hc4 hq => ?_)
    · refine fr_iconst (pc := 16) dX0_hasNode_16 (by decide) ?_
      refine fr_iret (pc := 17) dX0_hasNode_17 (Or.inr (Or.inl ⟨rfl, Or.inl rfl⟩)) ?_
      refine fr_ifcT (tg := 22) (pc := 5) dX0_hasStatement_5 rfl rfl ?_
      refine fr_iconst (pc := 22) dX0_hasStatement_22 (by decide) ?_
      refine fr_iret (pc := 23) dX0_hasStatement_23 (Or.inr (Or.inl ⟨rfl, Or.inl rfl⟩)) ?_
      refine fr_ifcF (tg := 21) (pc := 16) dX11_done_16 rfl rfl ?_
      refine fr_iconst (pc := 19) dX11_done_19 (by decide) ?_
      exact fr_iret (pc := 20) dX11_done_20 (Or.inl rfl) hq
    · refine fr_iload_n (pc := 4) dX0_hasNode_4 rfl rfl ?_
      refine fr_aload_n (pc := 5) dX0_hasNode_5 rfl rfl ?_
      refine fr_getf (a := 2) (i := 15) (v := gI M1 2 15) (t := 0) (pc := 6) dX0_hasNode_6 rfl pf_0_57 rfl s0_2 rfl rfl ?_
      refine fr_icm_ge (tg := 16) (pc := 9) dX0_hasNode_9 rfl hq (fun hc5 hq => ?_) (fun hc5 hq => ?_)
      · refine fr_iconst (pc := 12) dX0_hasNode_12 (by decide) ?_
        refine fr_goto (tg := 17) (pc := 13) dX0_hasNode_13 rfl ?_
        refine fr_iret (pc := 17) dX0_hasNode_17 (Or.inr (Or.inl ⟨rfl, Or.inr rfl⟩)) ?_
        refine fr_ifcF (tg := 22) (pc := 5) dX0_hasStatement_5 rfl rfl ?_
        refine fr_aload_n (pc := 8) dX0_hasStatement_8 rfl rfl ?_
        refine fr_getr (a := 2) (pc := 9) dX0_hasStatement_9 rfl pf_0_9 s0_2 rfl rf_2_0 ?_
        refine fr_iload_n (pc := 12) dX0_hasStatement_12 rfl rfl ?_
        obtain ⟨hb6, hq⟩ := hq
        refine fr_iaload (a := 3) (v := gI M1 3 a2) (pc := 13) dX0_hasStatement_13 rfl s0_3 hb6 rfl ?_
        refine fr_iconst (pc := 14) dX0_hasStatement_14 (by decide) ?_
        refine fr_icm_gt (tg := 22) (pc := 15) dX0_hasStatement_15 rfl hq (fun hc7 hq => ?_) (fun hc7 hq => ?_)
        · refine fr_iconst (pc := 18) dX0_hasStatement_18 (by decide) ?_
          refine fr_goto (tg := 23) (pc := 19) dX0_hasStatement_19 rfl ?_
          refine fr_iret (pc := 23) dX0_hasStatement_23 (Or.inr (Or.inl ⟨rfl, Or.inr rfl⟩)) ?_
          refine fr_ifcT (tg := 21) (pc := 16) dX11_done_16 rfl rfl ?_
          refine fr_aload_n (pc := 21) dX11_done_21 rfl rfl ?_
          refine fr_getr (a := 0) (pc := 22) dX11_done_22 rfl pf_11_68 s0_0 rfl rf_0_9 ?_
          refine fr_getr (a := 77) (pc := 25) dX11_done_25 rfl pf_11_189 s0_77 rfl rf_77_9 ?_
          refine fr_iload_n (pc := 28) dX11_done_28 rfl rfl ?_
          obtain ⟨hb8, hq⟩ := hq
          refine fr_aaload (a := 100) (pc := 29) dX11_done_29 rfl s0_100 hb8 rws_100 ?_
          refine fr_iload_n (pc := 30) dX11_done_30 rfl rfl ?_
          refine fr_iaload (a := (100 + 1 + a1.toNat)) (v := gI M1 (101 + a1.toNat) a2) (pc := 31) dX11_done_31 rfl (pm_rowS rwS_100 hb8) hb6 rfl ?_
          exact fr_iret (pc := 32) dX11_done_32 (Or.inl rfl) hq
        · refine fr_iconst (pc := 22) dX0_hasStatement_22 (by decide) ?_
          refine fr_iret (pc := 23) dX0_hasStatement_23 (Or.inr (Or.inl ⟨rfl, Or.inl rfl⟩)) ?_
          refine fr_ifcF (tg := 21) (pc := 16) dX11_done_16 rfl rfl ?_
          refine fr_iconst (pc := 19) dX11_done_19 (by decide) ?_
          exact fr_iret (pc := 20) dX11_done_20 (Or.inl rfl) hq
      · refine fr_iconst (pc := 16) dX0_hasNode_16 (by decide) ?_
        refine fr_iret (pc := 17) dX0_hasNode_17 (Or.inr (Or.inl ⟨rfl, Or.inl rfl⟩)) ?_
        refine fr_ifcT (tg := 22) (pc := 5) dX0_hasStatement_5 rfl rfl ?_
        refine fr_iconst (pc := 22) dX0_hasStatement_22 (by decide) ?_
        refine fr_iret (pc := 23) dX0_hasStatement_23 (Or.inr (Or.inl ⟨rfl, Or.inl rfl⟩)) ?_
        refine fr_ifcF (tg := 21) (pc := 16) dX11_done_16 rfl rfl ?_
        refine fr_iconst (pc := 19) dX11_done_19 (by decide) ?_
        exact fr_iret (pc := 20) dX11_done_20 (Or.inl rfl) hq
theorem k11_trace_r {a1 a2 : Int} {M : pm_M} {K : Int → pm_M → Prop} (hq : k11_hasRun a1 M (fun r2 M1 => (if r2 = 0 then K (-1) M1 else (if a2 < 0 then K (-1) M1 else ((0 ≤ a1 ∧ a1 < 16) ∧ (if a2 < gI M1 80 a1 then ((0 ≤ a2 ∧ a2 < 300) ∧ K (gI M1 (84 + a1.toNat) a2) M1) else K (-1) M1)))))) : k11_trace a1 a2 M K := by
  intro sc d hd
  refine fr_aload_n (pc := 0) dX11_trace_0 rfl rfl ?_
  refine fr_iload_n (pc := 1) dX11_trace_1 rfl rfl ?_
  refine fr_inVI (a := 0) (as := [(0, a1)]) (rest := []) (ls' := [(2, 0), (0, a1)]) (c1 := 0) (c2 := 0) (pc := 2) dX11_trace_2 pl_11_170 rfl ⟨Nat.le_of_ble_eq_true rfl, Nat.le_of_ble_eq_true rfl⟩ rfl rfl rfl s0_0 (Nat.le_of_ble_eq_true rfl) (by omega) rfl rfl (pm_zc _) (hq sc _ (by omega)) (fun r2 M1 hq => ?_)
  refine fr_ifc_eq (tg := 25) (pc := 5) dX11_trace_5 rfl hq (fun hc3 hq => ?_) (fun hc3 hq => ?_)
  · refine fr_iconst (pc := 25) dX11_trace_25 (by decide) ?_
    exact fr_iret (pc := 26) dX11_trace_26 (Or.inl rfl) hq
  · refine fr_iload_n (pc := 8) dX11_trace_8 rfl rfl ?_
    refine fr_ifc_lt (tg := 25) (pc := 9) dX11_trace_9 rfl hq (fun hc4 hq => ?_) (fun hc4 hq => ?_)
    · refine fr_iconst (pc := 25) dX11_trace_25 (by decide) ?_
      exact fr_iret (pc := 26) dX11_trace_26 (Or.inl rfl) hq
    · refine fr_iload_n (pc := 12) dX11_trace_12 rfl rfl ?_
      refine fr_aload_n (pc := 13) dX11_trace_13 rfl rfl ?_
      refine fr_getr (a := 0) (pc := 14) dX11_trace_14 rfl pf_11_68 s0_0 rfl rf_0_9 ?_
      refine fr_getr (a := 77) (pc := 17) dX11_trace_17 rfl pf_11_179 s0_77 rfl rf_77_5 ?_
      refine fr_iload_n (pc := 20) dX11_trace_20 rfl rfl ?_
      obtain ⟨hb5, hq⟩ := hq
      refine fr_iaload (a := 80) (v := gI M1 80 a1) (pc := 21) dX11_trace_21 rfl s0_80 hb5 rfl ?_
      refine fr_icm_lt (tg := 27) (pc := 22) dX11_trace_22 rfl hq (fun hc6 hq => ?_) (fun hc6 hq => ?_)
      · refine fr_aload_n (pc := 27) dX11_trace_27 rfl rfl ?_
        refine fr_getr (a := 0) (pc := 28) dX11_trace_28 rfl pf_11_68 s0_0 rfl rf_0_9 ?_
        refine fr_getr (a := 77) (pc := 31) dX11_trace_31 rfl pf_11_192 s0_77 rfl rf_77_8 ?_
        refine fr_iload_n (pc := 34) dX11_trace_34 rfl rfl ?_
        refine fr_aaload (a := 83) (pc := 35) dX11_trace_35 rfl s0_83 hb5 rws_83 ?_
        refine fr_iload_n (pc := 36) dX11_trace_36 rfl rfl ?_
        obtain ⟨hb7, hq⟩ := hq
        refine fr_iaload (a := (83 + 1 + a1.toNat)) (v := gI M1 (84 + a1.toNat) a2) (pc := 37) dX11_trace_37 rfl (pm_rowS rwS_83 hb5) hb7 rfl ?_
        exact fr_iret (pc := 38) dX11_trace_38 (Or.inl rfl) hq
      · refine fr_iconst (pc := 25) dX11_trace_25 (by decide) ?_
        exact fr_iret (pc := 26) dX11_trace_26 (Or.inl rfl) hq
theorem k11_spectrum_r {a1 a2 : Int} {M : pm_M} {K : Int → pm_M → Prop} (hq : (if a1 < 0 then K (-1) M else (if a1 < gI M 2 15 then ((0 ≤ a1 ∧ a1 < 60) ∧ (if gI M 3 a1 ≤ 3 then k11_learnRuns M (fun M5 => (if a2 = 0 then K (gI M5 118 a1) M5 else (if a2 = 1 then K (gI M5 119 a1) M5 else (if a2 = 2 then K (w32 ((gI M5 77 11) - (gI M5 118 a1))) M5 else (if a2 = 3 then K (w32 ((gI M5 77 10) - (gI M5 119 a1))) M5 else K (-1) M5))))) else K (-1) M)) else K (-1) M))) : k11_spectrum a1 a2 M K := by
  intro sc d hd
  refine fr_aload_n (pc := 0) dX11_spectrum_0 rfl rfl ?_
  refine fr_getr (a := 0) (pc := 1) dX11_spectrum_1 rfl pf_11_16 s0_0 rfl rf_0_4 ?_
  refine fr_iload_n (pc := 4) dX11_spectrum_4 rfl rfl ?_
  refine fr_inVI (a := 2) (as := [(0, a1)]) (rest := []) (ls' := [(2, 2), (0, a1)]) (c1 := 0) (c2 := 0) (pc := 5) dX11_spectrum_5 pl_11_186 rfl ⟨Nat.le_of_ble_eq_true rfl, Nat.le_of_ble_eq_true rfl⟩ rfl rfl rfl s0_2 (Nat.le_of_ble_eq_true rfl) (by omega) rfl rfl (pm_zc _) ?_ (fun y M' h => h)
  refine fr_aload_n (pc := 0) dX0_hasStatement_0 rfl rfl ?_
  refine fr_iload_n (pc := 1) dX0_hasStatement_1 rfl rfl ?_
  refine fr_inVI (a := 2) (as := [(0, a1)]) (rest := []) (ls' := [(2, 2), (0, a1)]) (c1 := 0) (c2 := 0) (pc := 2) dX0_hasStatement_2 pl_0_97 rfl ⟨Nat.le_of_ble_eq_true rfl, Nat.le_of_ble_eq_true rfl⟩ rfl rfl rfl s0_2 (Nat.le_of_ble_eq_true rfl) (by omega) rfl rfl (pm_zc _) ?_ (fun y M' h => h)
  refine fr_iload_n (pc := 0) dX0_hasNode_0 rfl rfl ?_
  refine fr_ifc_lt (tg := 16) (pc := 1) dX0_hasNode_1 rfl hq (fun hc1 hq => ?_) (fun hc1 hq => ?_)
  · refine fr_iconst (pc := 16) dX0_hasNode_16 (by decide) ?_
    refine fr_iret (pc := 17) dX0_hasNode_17 (Or.inr (Or.inl ⟨rfl, Or.inl rfl⟩)) ?_
    refine fr_ifcT (tg := 22) (pc := 5) dX0_hasStatement_5 rfl rfl ?_
    refine fr_iconst (pc := 22) dX0_hasStatement_22 (by decide) ?_
    refine fr_iret (pc := 23) dX0_hasStatement_23 (Or.inr (Or.inl ⟨rfl, Or.inl rfl⟩)) ?_
    refine fr_ifcF (tg := 13) (pc := 8) dX11_spectrum_8 rfl rfl ?_
    refine fr_iconst (pc := 11) dX11_spectrum_11 (by decide) ?_
    exact fr_iret (pc := 12) dX11_spectrum_12 (Or.inl rfl) hq
  · refine fr_iload_n (pc := 4) dX0_hasNode_4 rfl rfl ?_
    refine fr_aload_n (pc := 5) dX0_hasNode_5 rfl rfl ?_
    refine fr_getf (a := 2) (i := 15) (v := gI M 2 15) (t := 0) (pc := 6) dX0_hasNode_6 rfl pf_0_57 rfl s0_2 rfl rfl ?_
    refine fr_icm_ge (tg := 16) (pc := 9) dX0_hasNode_9 rfl hq (fun hc2 hq => ?_) (fun hc2 hq => ?_)
    · refine fr_iconst (pc := 12) dX0_hasNode_12 (by decide) ?_
      refine fr_goto (tg := 17) (pc := 13) dX0_hasNode_13 rfl ?_
      refine fr_iret (pc := 17) dX0_hasNode_17 (Or.inr (Or.inl ⟨rfl, Or.inr rfl⟩)) ?_
      refine fr_ifcF (tg := 22) (pc := 5) dX0_hasStatement_5 rfl rfl ?_
      refine fr_aload_n (pc := 8) dX0_hasStatement_8 rfl rfl ?_
      refine fr_getr (a := 2) (pc := 9) dX0_hasStatement_9 rfl pf_0_9 s0_2 rfl rf_2_0 ?_
      refine fr_iload_n (pc := 12) dX0_hasStatement_12 rfl rfl ?_
      obtain ⟨hb3, hq⟩ := hq
      refine fr_iaload (a := 3) (v := gI M 3 a1) (pc := 13) dX0_hasStatement_13 rfl s0_3 hb3 rfl ?_
      refine fr_iconst (pc := 14) dX0_hasStatement_14 (by decide) ?_
      refine fr_icm_gt (tg := 22) (pc := 15) dX0_hasStatement_15 rfl hq (fun hc4 hq => ?_) (fun hc4 hq => ?_)
      · refine fr_iconst (pc := 18) dX0_hasStatement_18 (by decide) ?_
        refine fr_goto (tg := 23) (pc := 19) dX0_hasStatement_19 rfl ?_
        refine fr_iret (pc := 23) dX0_hasStatement_23 (Or.inr (Or.inl ⟨rfl, Or.inr rfl⟩)) ?_
        refine fr_ifcT (tg := 13) (pc := 8) dX11_spectrum_8 rfl rfl ?_
        refine fr_aload_n (pc := 13) dX11_spectrum_13 rfl rfl ?_
        refine fr_inVV (a := 0) (as := []) (rest := []) (ls' := [(2, 0)]) (c1 := 0) (c2 := 0) (pc := 14) dX11_spectrum_14 pl_11_195 rfl ⟨Nat.le_of_ble_eq_true rfl, Nat.le_of_ble_eq_true rfl⟩ rfl rfl rfl s0_0 (Nat.le_of_ble_eq_true rfl) (by omega) rfl rfl (pm_zc _) (hq sc _ (by omega)) (fun M5 hq => ?_)
        refine fr_iload_n (pc := 17) dX11_spectrum_17 rfl rfl ?_
        refine pm_ite hq (fun hc7 hq => ?_) (fun hc7 hq => ?_)
        · refine fr_tabV (tg := 48) (off := 30) (v := 0) (pc := 18) dX11_spectrum_18 hc7 (by decide) rfl rfl ?_
          refine fr_aload_n (pc := 48) dX11_spectrum_48 rfl rfl ?_
          refine fr_getr (a := 0) (pc := 49) dX11_spectrum_49 rfl pf_11_77 s0_0 rfl rf_0_10 ?_
          refine fr_getr (a := 117) (pc := 52) dX11_spectrum_52 rfl pf_11_198 s0_117 rfl rf_117_2 ?_
          refine fr_iload_n (pc := 55) dX11_spectrum_55 rfl rfl ?_
          refine fr_iaload (a := 118) (v := gI M5 118 a1) (pc := 56) dX11_spectrum_56 rfl s0_118 hb3 rfl ?_
          exact fr_iret (pc := 57) dX11_spectrum_57 (Or.inl rfl) hq
        · refine pm_ite hq (fun hc8 hq => ?_) (fun hc8 hq => ?_)
          · refine fr_tabV (tg := 58) (off := 40) (v := 1) (pc := 18) dX11_spectrum_18 hc8 (by decide) rfl rfl ?_
            refine fr_aload_n (pc := 58) dX11_spectrum_58 rfl rfl ?_
            refine fr_getr (a := 0) (pc := 59) dX11_spectrum_59 rfl pf_11_77 s0_0 rfl rf_0_10 ?_
            refine fr_getr (a := 117) (pc := 62) dX11_spectrum_62 rfl pf_11_201 s0_117 rfl rf_117_3 ?_
            refine fr_iload_n (pc := 65) dX11_spectrum_65 rfl rfl ?_
            refine fr_iaload (a := 119) (v := gI M5 119 a1) (pc := 66) dX11_spectrum_66 rfl s0_119 hb3 rfl ?_
            exact fr_iret (pc := 67) dX11_spectrum_67 (Or.inl rfl) hq
          · refine pm_ite hq (fun hc9 hq => ?_) (fun hc9 hq => ?_)
            · refine fr_tabV (tg := 68) (off := 50) (v := 2) (pc := 18) dX11_spectrum_18 hc9 (by decide) rfl rfl ?_
              refine fr_aload_n (pc := 68) dX11_spectrum_68 rfl rfl ?_
              refine fr_getr (a := 0) (pc := 69) dX11_spectrum_69 rfl pf_11_68 s0_0 rfl rf_0_9 ?_
              refine fr_getf (a := 77) (i := 11) (v := gI M5 77 11) (t := 0) (pc := 72) dX11_spectrum_72 rfl pf_11_203 rfl s0_77 rfl rfl ?_
              refine fr_aload_n (pc := 75) dX11_spectrum_75 rfl rfl ?_
              refine fr_getr (a := 0) (pc := 76) dX11_spectrum_76 rfl pf_11_77 s0_0 rfl rf_0_10 ?_
              refine fr_getr (a := 117) (pc := 79) dX11_spectrum_79 rfl pf_11_198 s0_117 rfl rf_117_2 ?_
              refine fr_iload_n (pc := 82) dX11_spectrum_82 rfl rfl ?_
              refine fr_iaload (a := 118) (v := gI M5 118 a1) (pc := 83) dX11_spectrum_83 rfl s0_118 hb3 rfl ?_
              refine fr_isub (z := w32 ((gI M5 77 11) - (gI M5 118 a1))) (pc := 84) dX11_spectrum_84 rfl ?_
              exact fr_iret (pc := 85) dX11_spectrum_85 (Or.inl rfl) hq
            · refine pm_ite hq (fun hc10 hq => ?_) (fun hc10 hq => ?_)
              · refine fr_tabV (tg := 86) (off := 68) (v := 3) (pc := 18) dX11_spectrum_18 hc10 (by decide) rfl rfl ?_
                refine fr_aload_n (pc := 86) dX11_spectrum_86 rfl rfl ?_
                refine fr_getr (a := 0) (pc := 87) dX11_spectrum_87 rfl pf_11_68 s0_0 rfl rf_0_9 ?_
                refine fr_getf (a := 77) (i := 10) (v := gI M5 77 10) (t := 0) (pc := 90) dX11_spectrum_90 rfl pf_11_206 rfl s0_77 rfl rfl ?_
                refine fr_aload_n (pc := 93) dX11_spectrum_93 rfl rfl ?_
                refine fr_getr (a := 0) (pc := 94) dX11_spectrum_94 rfl pf_11_77 s0_0 rfl rf_0_10 ?_
                refine fr_getr (a := 117) (pc := 97) dX11_spectrum_97 rfl pf_11_201 s0_117 rfl rf_117_3 ?_
                refine fr_iload_n (pc := 100) dX11_spectrum_100 rfl rfl ?_
                refine fr_iaload (a := 119) (v := gI M5 119 a1) (pc := 101) dX11_spectrum_101 rfl s0_119 hb3 rfl ?_
                refine fr_isub (z := w32 ((gI M5 77 10) - (gI M5 119 a1))) (pc := 102) dX11_spectrum_102 rfl ?_
                exact fr_iret (pc := 103) dX11_spectrum_103 (Or.inl rfl) hq
              · refine fr_tableO (tg := 104) (pc := 18) dX11_spectrum_18 (by omega) rfl ?_
                refine fr_iconst (pc := 104) dX11_spectrum_104 (by decide) ?_
                exact fr_iret (pc := 105) dX11_spectrum_105 (Or.inl rfl) hq
      · refine fr_iconst (pc := 22) dX0_hasStatement_22 (by decide) ?_
        refine fr_iret (pc := 23) dX0_hasStatement_23 (Or.inr (Or.inl ⟨rfl, Or.inl rfl⟩)) ?_
        refine fr_ifcF (tg := 13) (pc := 8) dX11_spectrum_8 rfl rfl ?_
        refine fr_iconst (pc := 11) dX11_spectrum_11 (by decide) ?_
        exact fr_iret (pc := 12) dX11_spectrum_12 (Or.inl rfl) hq
    · refine fr_iconst (pc := 16) dX0_hasNode_16 (by decide) ?_
      refine fr_iret (pc := 17) dX0_hasNode_17 (Or.inr (Or.inl ⟨rfl, Or.inl rfl⟩)) ?_
      refine fr_ifcT (tg := 22) (pc := 5) dX0_hasStatement_5 rfl rfl ?_
      refine fr_iconst (pc := 22) dX0_hasStatement_22 (by decide) ?_
      refine fr_iret (pc := 23) dX0_hasStatement_23 (Or.inr (Or.inl ⟨rfl, Or.inl rfl⟩)) ?_
      refine fr_ifcF (tg := 13) (pc := 8) dX11_spectrum_8 rfl rfl ?_
      refine fr_iconst (pc := 11) dX11_spectrum_11 (by decide) ?_
      exact fr_iret (pc := 12) dX11_spectrum_12 (Or.inl rfl) hq
theorem k11_score_r {a1 a2 a3 : Int} {M : pm_M} {K : Int → pm_M → Prop} (hq : (if a1 < 0 then K (-1) M else (if a1 < 3 then (if a2 < 0 then K (-1) M else (if a2 < gI M 2 15 then ((0 ≤ a2 ∧ a2 < 60) ∧ (if gI M 3 a2 ≤ 3 then k11_learnRuns M (fun M7 => (if a3 = 0 then ((0 ≤ a1 ∧ a1 < 3) ∧ K (gI M7 (121 + a1.toNat) a2) M7) else (if a3 = 1 then ((0 ≤ a1 ∧ a1 < 3) ∧ K (gI M7 (125 + a1.toNat) a2) M7) else K (-1) M7))) else K (-1) M)) else K (-1) M)) else K (-1) M))) : k11_score a1 a2 a3 M K := by
  intro sc d hd
  refine fr_iload_n (pc := 0) dX11_score_0 rfl rfl ?_
  refine fr_ifc_lt (tg := 20) (pc := 1) dX11_score_1 rfl hq (fun hc1 hq => ?_) (fun hc1 hq => ?_)
  · refine fr_iconst (pc := 20) dX11_score_20 (by decide) ?_
    exact fr_iret (pc := 21) dX11_score_21 (Or.inl rfl) hq
  · refine fr_iload_n (pc := 4) dX11_score_4 rfl rfl ?_
    refine fr_iconst (pc := 5) dX11_score_5 (by decide) ?_
    refine fr_icm_ge (tg := 20) (pc := 6) dX11_score_6 rfl hq (fun hc2 hq => ?_) (fun hc2 hq => ?_)
    · refine fr_aload_n (pc := 9) dX11_score_9 rfl rfl ?_
      refine fr_getr (a := 0) (pc := 10) dX11_score_10 rfl pf_11_16 s0_0 rfl rf_0_4 ?_
      refine fr_iload_n (pc := 13) dX11_score_13 rfl rfl ?_
      refine fr_inVI (a := 2) (as := [(0, a2)]) (rest := []) (ls' := [(2, 2), (0, a2)]) (c1 := 0) (c2 := 0) (pc := 14) dX11_score_14 pl_11_186 rfl ⟨Nat.le_of_ble_eq_true rfl, Nat.le_of_ble_eq_true rfl⟩ rfl rfl rfl s0_2 (Nat.le_of_ble_eq_true rfl) (by omega) rfl rfl (pm_zc _) ?_ (fun y M' h => h)
      refine fr_aload_n (pc := 0) dX0_hasStatement_0 rfl rfl ?_
      refine fr_iload_n (pc := 1) dX0_hasStatement_1 rfl rfl ?_
      refine fr_inVI (a := 2) (as := [(0, a2)]) (rest := []) (ls' := [(2, 2), (0, a2)]) (c1 := 0) (c2 := 0) (pc := 2) dX0_hasStatement_2 pl_0_97 rfl ⟨Nat.le_of_ble_eq_true rfl, Nat.le_of_ble_eq_true rfl⟩ rfl rfl rfl s0_2 (Nat.le_of_ble_eq_true rfl) (by omega) rfl rfl (pm_zc _) ?_ (fun y M' h => h)
      refine fr_iload_n (pc := 0) dX0_hasNode_0 rfl rfl ?_
      refine fr_ifc_lt (tg := 16) (pc := 1) dX0_hasNode_1 rfl hq (fun hc3 hq => ?_) (fun hc3 hq => ?_)
      · refine fr_iconst (pc := 16) dX0_hasNode_16 (by decide) ?_
        refine fr_iret (pc := 17) dX0_hasNode_17 (Or.inr (Or.inl ⟨rfl, Or.inl rfl⟩)) ?_
        refine fr_ifcT (tg := 22) (pc := 5) dX0_hasStatement_5 rfl rfl ?_
        refine fr_iconst (pc := 22) dX0_hasStatement_22 (by decide) ?_
        refine fr_iret (pc := 23) dX0_hasStatement_23 (Or.inr (Or.inl ⟨rfl, Or.inl rfl⟩)) ?_
        refine fr_ifcF (tg := 22) (pc := 17) dX11_score_17 rfl rfl ?_
        refine fr_iconst (pc := 20) dX11_score_20 (by decide) ?_
        exact fr_iret (pc := 21) dX11_score_21 (Or.inl rfl) hq
      · refine fr_iload_n (pc := 4) dX0_hasNode_4 rfl rfl ?_
        refine fr_aload_n (pc := 5) dX0_hasNode_5 rfl rfl ?_
        refine fr_getf (a := 2) (i := 15) (v := gI M 2 15) (t := 0) (pc := 6) dX0_hasNode_6 rfl pf_0_57 rfl s0_2 rfl rfl ?_
        refine fr_icm_ge (tg := 16) (pc := 9) dX0_hasNode_9 rfl hq (fun hc4 hq => ?_) (fun hc4 hq => ?_)
        · refine fr_iconst (pc := 12) dX0_hasNode_12 (by decide) ?_
          refine fr_goto (tg := 17) (pc := 13) dX0_hasNode_13 rfl ?_
          refine fr_iret (pc := 17) dX0_hasNode_17 (Or.inr (Or.inl ⟨rfl, Or.inr rfl⟩)) ?_
          refine fr_ifcF (tg := 22) (pc := 5) dX0_hasStatement_5 rfl rfl ?_
          refine fr_aload_n (pc := 8) dX0_hasStatement_8 rfl rfl ?_
          refine fr_getr (a := 2) (pc := 9) dX0_hasStatement_9 rfl pf_0_9 s0_2 rfl rf_2_0 ?_
          refine fr_iload_n (pc := 12) dX0_hasStatement_12 rfl rfl ?_
          obtain ⟨hb5, hq⟩ := hq
          refine fr_iaload (a := 3) (v := gI M 3 a2) (pc := 13) dX0_hasStatement_13 rfl s0_3 hb5 rfl ?_
          refine fr_iconst (pc := 14) dX0_hasStatement_14 (by decide) ?_
          refine fr_icm_gt (tg := 22) (pc := 15) dX0_hasStatement_15 rfl hq (fun hc6 hq => ?_) (fun hc6 hq => ?_)
          · refine fr_iconst (pc := 18) dX0_hasStatement_18 (by decide) ?_
            refine fr_goto (tg := 23) (pc := 19) dX0_hasStatement_19 rfl ?_
            refine fr_iret (pc := 23) dX0_hasStatement_23 (Or.inr (Or.inl ⟨rfl, Or.inr rfl⟩)) ?_
            refine fr_ifcT (tg := 22) (pc := 17) dX11_score_17 rfl rfl ?_
            refine fr_aload_n (pc := 22) dX11_score_22 rfl rfl ?_
            refine fr_inVV (a := 0) (as := []) (rest := []) (ls' := [(2, 0)]) (c1 := 0) (c2 := 0) (pc := 23) dX11_score_23 pl_11_195 rfl ⟨Nat.le_of_ble_eq_true rfl, Nat.le_of_ble_eq_true rfl⟩ rfl rfl rfl s0_0 (Nat.le_of_ble_eq_true rfl) (by omega) rfl rfl (pm_zc _) (hq sc _ (by omega)) (fun M7 hq => ?_)
            refine fr_iload_n (pc := 26) dX11_score_26 rfl rfl ?_
            refine pm_ite hq (fun hc9 hq => ?_) (fun hc9 hq => ?_)
            · refine fr_lookV (tg := 52) (off := 25) (v := 0) (pc := 27) dX11_score_27 rfl hc9 rfl rfl ?_
              refine fr_aload_n (pc := 52) dX11_score_52 rfl rfl ?_
              refine fr_getr (a := 0) (pc := 53) dX11_score_53 rfl pf_11_77 s0_0 rfl rf_0_10 ?_
              refine fr_getr (a := 117) (pc := 56) dX11_score_56 rfl pf_11_209 s0_117 rfl rf_117_4 ?_
              refine fr_iload_n (pc := 59) dX11_score_59 rfl rfl ?_
              obtain ⟨hb10, hq⟩ := hq
              refine fr_aaload (a := 120) (pc := 60) dX11_score_60 rfl s0_120 hb10 rws_120 ?_
              refine fr_iload_n (pc := 61) dX11_score_61 rfl rfl ?_
              refine fr_iaload (a := (120 + 1 + a1.toNat)) (v := gI M7 (121 + a1.toNat) a2) (pc := 62) dX11_score_62 rfl (pm_rowS rwS_120 hb10) hb5 rfl ?_
              exact fr_iret (pc := 63) dX11_score_63 (Or.inl rfl) hq
            · refine pm_ite hq (fun hc11 hq => ?_) (fun hc11 hq => ?_)
              · refine fr_lookV (tg := 64) (off := 37) (v := 1) (pc := 27) dX11_score_27 rfl hc11 rfl rfl ?_
                refine fr_aload_n (pc := 64) dX11_score_64 rfl rfl ?_
                refine fr_getr (a := 0) (pc := 65) dX11_score_65 rfl pf_11_77 s0_0 rfl rf_0_10 ?_
                refine fr_getr (a := 117) (pc := 68) dX11_score_68 rfl pf_11_212 s0_117 rfl rf_117_5 ?_
                refine fr_iload_n (pc := 71) dX11_score_71 rfl rfl ?_
                obtain ⟨hb12, hq⟩ := hq
                refine fr_aaload (a := 124) (pc := 72) dX11_score_72 rfl s0_124 hb12 rws_124 ?_
                refine fr_iload_n (pc := 73) dX11_score_73 rfl rfl ?_
                refine fr_iaload (a := (124 + 1 + a1.toNat)) (v := gI M7 (125 + a1.toNat) a2) (pc := 74) dX11_score_74 rfl (pm_rowS rwS_124 hb12) hb5 rfl ?_
                exact fr_iret (pc := 75) dX11_score_75 (Or.inl rfl) hq
              · refine fr_lookup (tg := 76) (off := 49) (pc := 27) dX11_score_27 rfl (by simp only [Op.lookupswitch.offset, if_neg (Ne.symm hc9), if_neg (Ne.symm hc11)]) rfl ?_
                refine fr_iconst (pc := 76) dX11_score_76 (by decide) ?_
                exact fr_iret (pc := 77) dX11_score_77 (Or.inl rfl) hq
          · refine fr_iconst (pc := 22) dX0_hasStatement_22 (by decide) ?_
            refine fr_iret (pc := 23) dX0_hasStatement_23 (Or.inr (Or.inl ⟨rfl, Or.inl rfl⟩)) ?_
            refine fr_ifcF (tg := 22) (pc := 17) dX11_score_17 rfl rfl ?_
            refine fr_iconst (pc := 20) dX11_score_20 (by decide) ?_
            exact fr_iret (pc := 21) dX11_score_21 (Or.inl rfl) hq
        · refine fr_iconst (pc := 16) dX0_hasNode_16 (by decide) ?_
          refine fr_iret (pc := 17) dX0_hasNode_17 (Or.inr (Or.inl ⟨rfl, Or.inl rfl⟩)) ?_
          refine fr_ifcT (tg := 22) (pc := 5) dX0_hasStatement_5 rfl rfl ?_
          refine fr_iconst (pc := 22) dX0_hasStatement_22 (by decide) ?_
          refine fr_iret (pc := 23) dX0_hasStatement_23 (Or.inr (Or.inl ⟨rfl, Or.inl rfl⟩)) ?_
          refine fr_ifcF (tg := 22) (pc := 17) dX11_score_17 rfl rfl ?_
          refine fr_iconst (pc := 20) dX11_score_20 (by decide) ?_
          exact fr_iret (pc := 21) dX11_score_21 (Or.inl rfl) hq
    · refine fr_iconst (pc := 20) dX11_score_20 (by decide) ?_
      exact fr_iret (pc := 21) dX11_score_21 (Or.inl rfl) hq
theorem k11_suspect_r {a1 a2 : Int} {M : pm_M} {K : Int → pm_M → Prop} (hq : (if a1 < 0 then K (-1) M else (if a1 < 3 then (if a2 < 0 then K (-1) M else (if a2 < gI M 2 16 then k11_learnRuns M (fun M5 => ((0 ≤ a1 ∧ a1 < 3) ∧ ((0 ≤ a2 ∧ a2 < 20) ∧ K (gI M5 (129 + a1.toNat) a2) M5))) else K (-1) M)) else K (-1) M))) : k11_suspect a1 a2 M K := by
  intro sc d hd
  refine fr_iload_n (pc := 0) dX11_suspect_0 rfl rfl ?_
  refine fr_ifc_lt (tg := 24) (pc := 1) dX11_suspect_1 rfl hq (fun hc1 hq => ?_) (fun hc1 hq => ?_)
  · refine fr_iconst (pc := 24) dX11_suspect_24 (by decide) ?_
    exact fr_iret (pc := 25) dX11_suspect_25 (Or.inl rfl) hq
  · refine fr_iload_n (pc := 4) dX11_suspect_4 rfl rfl ?_
    refine fr_iconst (pc := 5) dX11_suspect_5 (by decide) ?_
    refine fr_icm_ge (tg := 24) (pc := 6) dX11_suspect_6 rfl hq (fun hc2 hq => ?_) (fun hc2 hq => ?_)
    · refine fr_iload_n (pc := 9) dX11_suspect_9 rfl rfl ?_
      refine fr_ifc_lt (tg := 24) (pc := 10) dX11_suspect_10 rfl hq (fun hc3 hq => ?_) (fun hc3 hq => ?_)
      · refine fr_iconst (pc := 24) dX11_suspect_24 (by decide) ?_
        exact fr_iret (pc := 25) dX11_suspect_25 (Or.inl rfl) hq
      · refine fr_iload_n (pc := 13) dX11_suspect_13 rfl rfl ?_
        refine fr_aload_n (pc := 14) dX11_suspect_14 rfl rfl ?_
        refine fr_getr (a := 0) (pc := 15) dX11_suspect_15 rfl pf_11_16 s0_0 rfl rf_0_4 ?_
        refine fr_getf (a := 2) (i := 16) (v := gI M 2 16) (t := 0) (pc := 18) dX11_suspect_18 rfl pf_11_215 rfl s0_2 rfl rfl ?_
        refine fr_icm_lt (tg := 26) (pc := 21) dX11_suspect_21 rfl hq (fun hc4 hq => ?_) (fun hc4 hq => ?_)
        · refine fr_aload_n (pc := 26) dX11_suspect_26 rfl rfl ?_
          refine fr_inVV (a := 0) (as := []) (rest := []) (ls' := [(2, 0)]) (c1 := 0) (c2 := 0) (pc := 27) dX11_suspect_27 pl_11_195 rfl ⟨Nat.le_of_ble_eq_true rfl, Nat.le_of_ble_eq_true rfl⟩ rfl rfl rfl s0_0 (Nat.le_of_ble_eq_true rfl) (by omega) rfl rfl (pm_zc _) (hq sc _ (by omega)) (fun M5 hq => ?_)
          refine fr_aload_n (pc := 30) dX11_suspect_30 rfl rfl ?_
          refine fr_getr (a := 0) (pc := 31) dX11_suspect_31 rfl pf_11_77 s0_0 rfl rf_0_10 ?_
          refine fr_getr (a := 117) (pc := 34) dX11_suspect_34 rfl pf_11_218 s0_117 rfl rf_117_6 ?_
          refine fr_iload_n (pc := 37) dX11_suspect_37 rfl rfl ?_
          obtain ⟨hb7, hq⟩ := hq
          refine fr_aaload (a := 128) (pc := 38) dX11_suspect_38 rfl s0_128 hb7 rws_128 ?_
          refine fr_iload_n (pc := 39) dX11_suspect_39 rfl rfl ?_
          obtain ⟨hb8, hq⟩ := hq
          refine fr_iaload (a := (128 + 1 + a1.toNat)) (v := gI M5 (129 + a1.toNat) a2) (pc := 40) dX11_suspect_40 rfl (pm_rowS rwS_128 hb7) hb8 rfl ?_
          exact fr_iret (pc := 41) dX11_suspect_41 (Or.inl rfl) hq
        · refine fr_iconst (pc := 24) dX11_suspect_24 (by decide) ?_
          exact fr_iret (pc := 25) dX11_suspect_25 (Or.inl rfl) hq
    · refine fr_iconst (pc := 24) dX11_suspect_24 (by decide) ?_
      exact fr_iret (pc := 25) dX11_suspect_25 (Or.inl rfl) hq
theorem k11_changes_r {a1 : Int} {M : pm_M} {K : Int → pm_M → Prop} (hq : (if a1 < 0 then K (-1) M else (if a1 < gI M 2 15 then k0_changeCount a1 M (fun r4 M3 => K r4 M3) else K (-1) M))) : k11_changes a1 M K := by
  intro sc d hd
  refine fr_aload_n (pc := 0) dX11_changes_0 rfl rfl ?_
  refine fr_getr (a := 0) (pc := 1) dX11_changes_1 rfl pf_11_16 s0_0 rfl rf_0_4 ?_
  refine fr_iload_n (pc := 4) dX11_changes_4 rfl rfl ?_
  refine fr_inVI (a := 2) (as := [(0, a1)]) (rest := []) (ls' := [(2, 2), (0, a1)]) (c1 := 0) (c2 := 0) (pc := 5) dX11_changes_5 pl_11_128 rfl ⟨Nat.le_of_ble_eq_true rfl, Nat.le_of_ble_eq_true rfl⟩ rfl rfl rfl s0_2 (Nat.le_of_ble_eq_true rfl) (by omega) rfl rfl (pm_zc _) ?_ (fun y M' h => h)
  refine fr_iload_n (pc := 0) dX0_hasNode_0 rfl rfl ?_
  refine fr_ifc_lt (tg := 16) (pc := 1) dX0_hasNode_1 rfl hq (fun hc1 hq => ?_) (fun hc1 hq => ?_)
  · refine fr_iconst (pc := 16) dX0_hasNode_16 (by decide) ?_
    refine fr_iret (pc := 17) dX0_hasNode_17 (Or.inr (Or.inl ⟨rfl, Or.inl rfl⟩)) ?_
    refine fr_ifcT (tg := 22) (pc := 8) dX11_changes_8 rfl rfl ?_
    refine fr_iconst (pc := 22) dX11_changes_22 (by decide) ?_
    exact fr_iret (pc := 23) dX11_changes_23 (Or.inl rfl) hq
  · refine fr_iload_n (pc := 4) dX0_hasNode_4 rfl rfl ?_
    refine fr_aload_n (pc := 5) dX0_hasNode_5 rfl rfl ?_
    refine fr_getf (a := 2) (i := 15) (v := gI M 2 15) (t := 0) (pc := 6) dX0_hasNode_6 rfl pf_0_57 rfl s0_2 rfl rfl ?_
    refine fr_icm_ge (tg := 16) (pc := 9) dX0_hasNode_9 rfl hq (fun hc2 hq => ?_) (fun hc2 hq => ?_)
    · refine fr_iconst (pc := 12) dX0_hasNode_12 (by decide) ?_
      refine fr_goto (tg := 17) (pc := 13) dX0_hasNode_13 rfl ?_
      refine fr_iret (pc := 17) dX0_hasNode_17 (Or.inr (Or.inl ⟨rfl, Or.inr rfl⟩)) ?_
      refine fr_ifcF (tg := 22) (pc := 8) dX11_changes_8 rfl rfl ?_
      refine fr_aload_n (pc := 11) dX11_changes_11 rfl rfl ?_
      refine fr_getr (a := 0) (pc := 12) dX11_changes_12 rfl pf_11_16 s0_0 rfl rf_0_4 ?_
      refine fr_iload_n (pc := 15) dX11_changes_15 rfl rfl ?_
      refine fr_inVI (a := 2) (as := [(0, a1)]) (rest := []) (ls' := [(2, 2), (0, a1)]) (c1 := 0) (c2 := 0) (pc := 16) dX11_changes_16 pl_11_221 rfl ⟨Nat.le_of_ble_eq_true rfl, Nat.le_of_ble_eq_true rfl⟩ rfl rfl rfl s0_2 (Nat.le_of_ble_eq_true rfl) (by omega) rfl rfl (pm_zc _) (hq sc _ (by omega)) (fun r4 M3 hq => ?_)
      refine fr_goto (tg := 23) (pc := 19) dX11_changes_19 rfl ?_
      exact fr_iret (pc := 23) dX11_changes_23 (Or.inl rfl) hq
    · refine fr_iconst (pc := 16) dX0_hasNode_16 (by decide) ?_
      refine fr_iret (pc := 17) dX0_hasNode_17 (Or.inr (Or.inl ⟨rfl, Or.inl rfl⟩)) ?_
      refine fr_ifcT (tg := 22) (pc := 8) dX11_changes_8 rfl rfl ?_
      refine fr_iconst (pc := 22) dX11_changes_22 (by decide) ?_
      exact fr_iret (pc := 23) dX11_changes_23 (Or.inl rfl) hq
theorem k0_changeCount_r {a1 : Int} {M : pm_M} {K : Int → pm_M → Prop} (hq : k0_isGone a1 M (fun r2 M1 => (if r2 = 0 then ((0 ≤ a1 ∧ a1 < 60) ∧ (if gI M1 3 a1 = 1 then K 2 M1 else (if gI M1 3 a1 = 2 then K 2 M1 else (if gI M1 3 a1 = 3 then K 1 M1 else (if gI M1 3 a1 = 4 then (if gI M1 4 a1 < (-1) then K 3 M1 else (if gI M1 4 a1 ≤ 1 then K 2 M1 else K 3 M1)) else (if gI M1 3 a1 = 5 then k0_variableCount M1 (fun r13 M12 => K (w32 (r13 - 1)) M12) else (if gI M1 3 a1 = 6 then K 1 M1 else (if gI M1 3 a1 = 7 then (if gI M1 4 a1 = 0 then K 4 M1 else (if gI M1 4 a1 = 2 then K 4 M1 else K 5 M1)) else K 1 M1)))))))) else K 0 M1))) : k0_changeCount a1 M K := by
  intro sc d hd
  refine fr_aload_n (pc := 0) dX0_changeCount_0 rfl rfl ?_
  refine fr_iload_n (pc := 1) dX0_changeCount_1 rfl rfl ?_
  refine fr_inVI (a := 2) (as := [(0, a1)]) (rest := []) (ls' := [(2, 2), (0, a1), (9, 0), (9, 0)]) (c1 := 0) (c2 := 0) (pc := 2) dX0_changeCount_2 pl_0_110 rfl ⟨Nat.le_of_ble_eq_true rfl, Nat.le_of_ble_eq_true rfl⟩ rfl rfl rfl s0_2 (Nat.le_of_ble_eq_true rfl) (by omega) rfl rfl (pm_zc _) (hq sc _ (by omega)) (fun r2 M1 hq => ?_)
  refine fr_ifc_eq (tg := 10) (pc := 5) dX0_changeCount_5 rfl hq (fun hc3 hq => ?_) (fun hc3 hq => ?_)
  · refine fr_aload_n (pc := 10) dX0_changeCount_10 rfl rfl ?_
    refine fr_getr (a := 2) (pc := 11) dX0_changeCount_11 rfl pf_0_9 s0_2 rfl rf_2_0 ?_
    refine fr_iload_n (pc := 14) dX0_changeCount_14 rfl rfl ?_
    obtain ⟨hb4, hq⟩ := hq
    refine fr_iaload (a := 3) (v := gI M1 3 a1) (pc := 15) dX0_changeCount_15 rfl s0_3 hb4 rfl ?_
    refine pm_ite hq (fun hc5 hq => ?_) (fun hc5 hq => ?_)
    · refine fr_tabV (tg := 60) (off := 44) (v := 1) (pc := 16) dX0_changeCount_16 hc5 (by decide) rfl rfl ?_
      refine fr_iconst (pc := 60) dX0_changeCount_60 (by decide) ?_
      exact fr_iret (pc := 61) dX0_changeCount_61 (Or.inl rfl) hq
    · refine pm_ite hq (fun hc6 hq => ?_) (fun hc6 hq => ?_)
      · refine fr_tabV (tg := 60) (off := 44) (v := 2) (pc := 16) dX0_changeCount_16 hc6 (by decide) rfl rfl ?_
        refine fr_iconst (pc := 60) dX0_changeCount_60 (by decide) ?_
        exact fr_iret (pc := 61) dX0_changeCount_61 (Or.inl rfl) hq
      · refine pm_ite hq (fun hc7 hq => ?_) (fun hc7 hq => ?_)
        · refine fr_tabV (tg := 120) (off := 104) (v := 3) (pc := 16) dX0_changeCount_16 hc7 (by decide) rfl rfl ?_
          refine fr_iconst (pc := 120) dX0_changeCount_120 (by decide) ?_
          exact fr_iret (pc := 121) dX0_changeCount_121 (Or.inl rfl) hq
        · refine pm_ite hq (fun hc8 hq => ?_) (fun hc8 hq => ?_)
          · refine fr_tabV (tg := 62) (off := 46) (v := 4) (pc := 16) dX0_changeCount_16 hc8 (by decide) rfl rfl ?_
            refine fr_aload_n (pc := 62) dX0_changeCount_62 rfl rfl ?_
            refine fr_getr (a := 2) (pc := 63) dX0_changeCount_63 rfl pf_0_15 s0_2 rfl rf_2_1 ?_
            refine fr_iload_n (pc := 66) dX0_changeCount_66 rfl rfl ?_
            refine fr_iaload (a := 4) (v := gI M1 4 a1) (pc := 67) dX0_changeCount_67 rfl s0_4 hb4 rfl ?_
            refine fr_iconst (pc := 68) dX0_changeCount_68 (by decide) ?_
            refine fr_icm_lt (tg := 86) (pc := 69) dX0_changeCount_69 rfl hq (fun hc9 hq => ?_) (fun hc9 hq => ?_)
            · refine fr_iconst (pc := 86) dX0_changeCount_86 (by decide) ?_
              exact fr_iret (pc := 87) dX0_changeCount_87 (Or.inl rfl) hq
            · refine fr_aload_n (pc := 72) dX0_changeCount_72 rfl rfl ?_
              refine fr_getr (a := 2) (pc := 73) dX0_changeCount_73 rfl pf_0_15 s0_2 rfl rf_2_1 ?_
              refine fr_iload_n (pc := 76) dX0_changeCount_76 rfl rfl ?_
              refine fr_iaload (a := 4) (v := gI M1 4 a1) (pc := 77) dX0_changeCount_77 rfl s0_4 hb4 rfl ?_
              refine fr_iconst (pc := 78) dX0_changeCount_78 (by decide) ?_
              refine fr_icm_gt (tg := 86) (pc := 79) dX0_changeCount_79 rfl hq (fun hc10 hq => ?_) (fun hc10 hq => ?_)
              · refine fr_iconst (pc := 82) dX0_changeCount_82 (by decide) ?_
                refine fr_goto (tg := 87) (pc := 83) dX0_changeCount_83 rfl ?_
                exact fr_iret (pc := 87) dX0_changeCount_87 (Or.inl rfl) hq
              · refine fr_iconst (pc := 86) dX0_changeCount_86 (by decide) ?_
                exact fr_iret (pc := 87) dX0_changeCount_87 (Or.inl rfl) hq
          · refine pm_ite hq (fun hc11 hq => ?_) (fun hc11 hq => ?_)
            · refine fr_tabV (tg := 88) (off := 72) (v := 5) (pc := 16) dX0_changeCount_16 hc11 (by decide) rfl rfl ?_
              refine fr_aload_n (pc := 88) dX0_changeCount_88 rfl rfl ?_
              refine fr_inVI (a := 2) (as := []) (rest := []) (ls' := [(2, 2)]) (c1 := 0) (c2 := 0) (pc := 89) dX0_changeCount_89 pl_0_113 rfl ⟨Nat.le_of_ble_eq_true rfl, Nat.le_of_ble_eq_true rfl⟩ rfl rfl rfl s0_2 (Nat.le_of_ble_eq_true rfl) (by omega) rfl rfl (pm_zc _) (hq sc _ (by omega)) (fun r13 M12 hq => ?_)
              refine fr_iconst (pc := 92) dX0_changeCount_92 (by decide) ?_
              refine fr_isub (z := w32 (r13 - 1)) (pc := 93) dX0_changeCount_93 rfl ?_
              exact fr_iret (pc := 94) dX0_changeCount_94 (Or.inl rfl) hq
            · refine pm_ite hq (fun hc14 hq => ?_) (fun hc14 hq => ?_)
              · refine fr_tabV (tg := 120) (off := 104) (v := 6) (pc := 16) dX0_changeCount_16 hc14 (by decide) rfl rfl ?_
                refine fr_iconst (pc := 120) dX0_changeCount_120 (by decide) ?_
                exact fr_iret (pc := 121) dX0_changeCount_121 (Or.inl rfl) hq
              · refine pm_ite hq (fun hc15 hq => ?_) (fun hc15 hq => ?_)
                · refine fr_tabV (tg := 95) (off := 79) (v := 7) (pc := 16) dX0_changeCount_16 hc15 (by decide) rfl rfl ?_
                  refine fr_aload_n (pc := 95) dX0_changeCount_95 rfl rfl ?_
                  refine fr_getr (a := 2) (pc := 96) dX0_changeCount_96 rfl pf_0_15 s0_2 rfl rf_2_1 ?_
                  refine fr_iload_n (pc := 99) dX0_changeCount_99 rfl rfl ?_
                  refine fr_iaload (a := 4) (v := gI M1 4 a1) (pc := 100) dX0_changeCount_100 rfl s0_4 hb4 rfl ?_
                  refine fr_ifc_eq (tg := 114) (pc := 101) dX0_changeCount_101 rfl hq (fun hc16 hq => ?_) (fun hc16 hq => ?_)
                  · refine fr_iconst (pc := 114) dX0_changeCount_114 (by decide) ?_
                    refine fr_goto (tg := 119) (pc := 115) dX0_changeCount_115 rfl ?_
                    exact fr_iret (pc := 119) dX0_changeCount_119 (Or.inl rfl) hq
                  · refine fr_aload_n (pc := 104) dX0_changeCount_104 rfl rfl ?_
                    refine fr_getr (a := 2) (pc := 105) dX0_changeCount_105 rfl pf_0_15 s0_2 rfl rf_2_1 ?_
                    refine fr_iload_n (pc := 108) dX0_changeCount_108 rfl rfl ?_
                    refine fr_iaload (a := 4) (v := gI M1 4 a1) (pc := 109) dX0_changeCount_109 rfl s0_4 hb4 rfl ?_
                    refine fr_iconst (pc := 110) dX0_changeCount_110 (by decide) ?_
                    refine fr_icm_ne (tg := 118) (pc := 111) dX0_changeCount_111 rfl hq (fun hc17 hq => ?_) (fun hc17 hq => ?_)
                    · refine fr_iconst (pc := 114) dX0_changeCount_114 (by decide) ?_
                      refine fr_goto (tg := 119) (pc := 115) dX0_changeCount_115 rfl ?_
                      exact fr_iret (pc := 119) dX0_changeCount_119 (Or.inl rfl) hq
                    · refine fr_iconst (pc := 118) dX0_changeCount_118 (by decide) ?_
                      exact fr_iret (pc := 119) dX0_changeCount_119 (Or.inl rfl) hq
                · refine fr_tableO (tg := 120) (pc := 16) dX0_changeCount_16 (by omega) rfl ?_
                  refine fr_iconst (pc := 120) dX0_changeCount_120 (by decide) ?_
                  exact fr_iret (pc := 121) dX0_changeCount_121 (Or.inl rfl) hq
  · refine fr_iconst (pc := 8) dX0_changeCount_8 (by decide) ?_
    exact fr_iret (pc := 9) dX0_changeCount_9 (Or.inl rfl) hq
theorem k0_isGone_r {a1 : Int} {M : pm_M} {K : Int → pm_M → Prop} (hq : ((0 ≤ a1 ∧ a1 < 60) ∧ (if gI M 5 a1 = 1 then K 1 M else k0_isGone_21 (gI M 7 a1) 0 M K))) : k0_isGone a1 M K := by
  intro sc d hd
  refine fr_aload_n (pc := 0) dX0_isGone_0 rfl rfl ?_
  refine fr_getr (a := 2) (pc := 1) dX0_isGone_1 rfl pf_0_18 s0_2 rfl rf_2_2 ?_
  refine fr_iload_n (pc := 4) dX0_isGone_4 rfl rfl ?_
  obtain ⟨hb1, hq⟩ := hq
  refine fr_iaload (a := 5) (v := gI M 5 a1) (pc := 5) dX0_isGone_5 rfl s0_5 hb1 rfl ?_
  refine fr_iconst (pc := 6) dX0_isGone_6 (by decide) ?_
  refine fr_icm_ne (tg := 12) (pc := 7) dX0_isGone_7 rfl hq (fun hc2 hq => ?_) (fun hc2 hq => ?_)
  · refine fr_iconst (pc := 10) dX0_isGone_10 (by decide) ?_
    exact fr_iret (pc := 11) dX0_isGone_11 (Or.inr (Or.inl ⟨rfl, Or.inr rfl⟩)) hq
  · refine fr_aload_n (pc := 12) dX0_isGone_12 rfl rfl ?_
    refine fr_getr (a := 2) (pc := 13) dX0_isGone_13 rfl pf_0_24 s0_2 rfl rf_2_4 ?_
    refine fr_iload_n (pc := 16) dX0_isGone_16 rfl rfl ?_
    refine fr_iaload (a := 7) (v := gI M 7 a1) (pc := 17) dX0_isGone_17 rfl s0_7 hb1 rfl ?_
    refine fr_istore_n (ls2 := [(2, 2), (0, a1), (0, gI M 7 a1), (9, 0)]) (pc := 18) dX0_isGone_18 rfl (Nat.le_of_ble_eq_true rfl) rfl ?_
    refine fr_iconst (pc := 19) dX0_isGone_19 (by decide) ?_
    refine fr_istore_n (ls2 := [(2, 2), (0, a1), (0, gI M 7 a1), (0, 0)]) (pc := 20) dX0_isGone_20 rfl (Nat.le_of_ble_eq_true rfl) rfl ?_
    exact hq sc d hd (0, a1) pm_t0
theorem k0_isGone_21_r {l2 l3 : Int} {M : pm_M} {K : Int → pm_M → Prop} (hq : (if l3 < 20 then (if l2 = (-1) then K 0 M else ((0 ≤ l2 ∧ l2 < 60) ∧ (if gI M 5 l2 = 1 then K 1 M else k0_isGone_21 (gI M 6 l2) (w32 (l3 + 1)) M K))) else K 0 M)) : k0_isGone_21 l2 l3 M K := by
  intro sc d hd z1 hz1
  refine fr_iload_n (pc := 21) dX0_isGone_21 rfl rfl ?_
  refine fr_bipush (pc := 22) dX0_isGone_22 (by decide) ?_
  refine fr_icm_ge (tg := 57) (pc := 24) dX0_isGone_24 rfl hq (fun hc1 hq => ?_) (fun hc1 hq => ?_)
  · refine fr_iload_n (pc := 27) dX0_isGone_27 rfl rfl ?_
    refine fr_iconst (pc := 28) dX0_isGone_28 (by decide) ?_
    refine fr_icm_eq (tg := 57) (pc := 29) dX0_isGone_29 rfl hq (fun hc2 hq => ?_) (fun hc2 hq => ?_)
    · refine fr_iconst (pc := 57) dX0_isGone_57 (by decide) ?_
      exact fr_iret (pc := 58) dX0_isGone_58 (Or.inr (Or.inl ⟨rfl, Or.inl rfl⟩)) hq
    · refine fr_aload_n (pc := 32) dX0_isGone_32 rfl rfl ?_
      refine fr_getr (a := 2) (pc := 33) dX0_isGone_33 rfl pf_0_18 s0_2 rfl rf_2_2 ?_
      refine fr_iload_n (pc := 36) dX0_isGone_36 rfl rfl ?_
      obtain ⟨hb3, hq⟩ := hq
      refine fr_iaload (a := 5) (v := gI M 5 l2) (pc := 37) dX0_isGone_37 rfl s0_5 hb3 rfl ?_
      refine fr_iconst (pc := 38) dX0_isGone_38 (by decide) ?_
      refine fr_icm_ne (tg := 44) (pc := 39) dX0_isGone_39 rfl hq (fun hc4 hq => ?_) (fun hc4 hq => ?_)
      · refine fr_iconst (pc := 42) dX0_isGone_42 (by decide) ?_
        exact fr_iret (pc := 43) dX0_isGone_43 (Or.inr (Or.inl ⟨rfl, Or.inr rfl⟩)) hq
      · refine fr_aload_n (pc := 44) dX0_isGone_44 rfl rfl ?_
        refine fr_getr (a := 2) (pc := 45) dX0_isGone_45 rfl pf_0_21 s0_2 rfl rf_2_3 ?_
        refine fr_iload_n (pc := 48) dX0_isGone_48 rfl rfl ?_
        refine fr_iaload (a := 6) (v := gI M 6 l2) (pc := 49) dX0_isGone_49 rfl s0_6 hb3 rfl ?_
        refine fr_istore_n (ls2 := [(2, 2), z1, (0, gI M 6 l2), (0, l3)]) (pc := 50) dX0_isGone_50 rfl (Nat.le_of_ble_eq_true rfl) (pm_st1z hz1 rfl rfl) ?_
        refine fr_iinc (z := w32 (l3 + 1)) (ls2 := [(2, 2), z1, (0, gI M 6 l2), (0, w32 (l3 + 1))]) (pc := 51) dX0_isGone_51 (Nat.le_of_ble_eq_true rfl) rfl rfl rfl ?_
        refine fr_goto (tg := 21) (pc := 54) dX0_isGone_54 rfl ?_
        exact hq sc d hd z1 hz1
  · refine fr_iconst (pc := 57) dX0_isGone_57 (by decide) ?_
    exact fr_iret (pc := 58) dX0_isGone_58 (Or.inr (Or.inl ⟨rfl, Or.inl rfl⟩)) hq
theorem k0_variableCount_r {M : pm_M} {K : Int → pm_M → Prop} (hq : kJ6_bitCount_0f7a4 (gI M 2 18) M (fun r2 M1 => K r2 M1)) : k0_variableCount M K := by
  intro sc d hd
  refine fr_aload_n (pc := 0) dX0_variableCount_0 rfl rfl ?_
  refine fr_getf (a := 2) (i := 18) (v := gI M 2 18) (t := 0) (pc := 1) dX0_variableCount_1 rfl pf_0_67 rfl s0_2 rfl rfl ?_
  refine fr_inSI (as := [(0, gI M 2 18)]) (rest := []) (ls' := [(0, gI M 2 18)]) (c1 := 0) (c2 := 0) (pc := 4) dX0_variableCount_4 pl_0_105 rfl ⟨Nat.le_of_ble_eq_true rfl, Nat.le_of_ble_eq_true rfl⟩ rfl rfl  (by omega) rfl rfl (pm_zc _) (hq sc _ (by omega)) (fun r2 M1 hq => ?_)
  exact fr_iret (pc := 7) dX0_variableCount_7 (Or.inl rfl) hq
theorem kJ6_bitCount_0f7a4_r {a1 : Int} {M : pm_M} {K : Int → pm_M → Prop} (hq : K (pm_iand (w32 ((w32 ((pm_iand (w32 ((w32 ((pm_iand (w32 (a1 - (pm_iand (pm_iushr a1 1) 1431655765))) 858993459) + (pm_iand (pm_iushr (w32 (a1 - (pm_iand (pm_iushr a1 1) 1431655765))) 2) 858993459))) + (pm_iushr (w32 ((pm_iand (w32 (a1 - (pm_iand (pm_iushr a1 1) 1431655765))) 858993459) + (pm_iand (pm_iushr (w32 (a1 - (pm_iand (pm_iushr a1 1) 1431655765))) 2) 858993459))) 4))) 252645135) + (pm_iushr (pm_iand (w32 ((w32 ((pm_iand (w32 (a1 - (pm_iand (pm_iushr a1 1) 1431655765))) 858993459) + (pm_iand (pm_iushr (w32 (a1 - (pm_iand (pm_iushr a1 1) 1431655765))) 2) 858993459))) + (pm_iushr (w32 ((pm_iand (w32 (a1 - (pm_iand (pm_iushr a1 1) 1431655765))) 858993459) + (pm_iand (pm_iushr (w32 (a1 - (pm_iand (pm_iushr a1 1) 1431655765))) 2) 858993459))) 4))) 252645135) 8))) + (pm_iushr (w32 ((pm_iand (w32 ((w32 ((pm_iand (w32 (a1 - (pm_iand (pm_iushr a1 1) 1431655765))) 858993459) + (pm_iand (pm_iushr (w32 (a1 - (pm_iand (pm_iushr a1 1) 1431655765))) 2) 858993459))) + (pm_iushr (w32 ((pm_iand (w32 (a1 - (pm_iand (pm_iushr a1 1) 1431655765))) 858993459) + (pm_iand (pm_iushr (w32 (a1 - (pm_iand (pm_iushr a1 1) 1431655765))) 2) 858993459))) 4))) 252645135) + (pm_iushr (pm_iand (w32 ((w32 ((pm_iand (w32 (a1 - (pm_iand (pm_iushr a1 1) 1431655765))) 858993459) + (pm_iand (pm_iushr (w32 (a1 - (pm_iand (pm_iushr a1 1) 1431655765))) 2) 858993459))) + (pm_iushr (w32 ((pm_iand (w32 (a1 - (pm_iand (pm_iushr a1 1) 1431655765))) 858993459) + (pm_iand (pm_iushr (w32 (a1 - (pm_iand (pm_iushr a1 1) 1431655765))) 2) 858993459))) 4))) 252645135) 8))) 16))) 63) M) : kJ6_bitCount_0f7a4 a1 M K := by
  intro sc d hd
  refine fr_iload_n (pc := 0) dJ6_bitCount_0f7a4_0 rfl rfl ?_
  refine fr_iload_n (pc := 1) dJ6_bitCount_0f7a4_1 rfl rfl ?_
  refine fr_iconst (pc := 2) dJ6_bitCount_0f7a4_2 (by decide) ?_
  refine fr_iushr (z := pm_iushr a1 1) (pc := 3) dJ6_bitCount_0f7a4_3 rfl ?_
  refine fr_ldcw (pc := 4) dJ6_bitCount_0f7a4_4 rfl ?_
  refine fr_iand (z := pm_iand (pm_iushr a1 1) 1431655765) (pc := 7) dJ6_bitCount_0f7a4_7 rfl ?_
  refine fr_isub (z := w32 (a1 - (pm_iand (pm_iushr a1 1) 1431655765))) (pc := 8) dJ6_bitCount_0f7a4_8 rfl ?_
  refine fr_istore_n (ls2 := [(0, w32 (a1 - (pm_iand (pm_iushr a1 1) 1431655765)))]) (pc := 9) dJ6_bitCount_0f7a4_9 rfl (Nat.le_of_ble_eq_true rfl) rfl ?_
  refine fr_iload_n (pc := 10) dJ6_bitCount_0f7a4_10 rfl rfl ?_
  refine fr_ldcw (pc := 11) dJ6_bitCount_0f7a4_11 rfl ?_
  refine fr_iand (z := pm_iand (w32 (a1 - (pm_iand (pm_iushr a1 1) 1431655765))) 858993459) (pc := 14) dJ6_bitCount_0f7a4_14 rfl ?_
  refine fr_iload_n (pc := 15) dJ6_bitCount_0f7a4_15 rfl rfl ?_
  refine fr_iconst (pc := 16) dJ6_bitCount_0f7a4_16 (by decide) ?_
  refine fr_iushr (z := pm_iushr (w32 (a1 - (pm_iand (pm_iushr a1 1) 1431655765))) 2) (pc := 17) dJ6_bitCount_0f7a4_17 rfl ?_
  refine fr_ldcw (pc := 18) dJ6_bitCount_0f7a4_18 rfl ?_
  refine fr_iand (z := pm_iand (pm_iushr (w32 (a1 - (pm_iand (pm_iushr a1 1) 1431655765))) 2) 858993459) (pc := 21) dJ6_bitCount_0f7a4_21 rfl ?_
  refine fr_iadd (z := w32 ((pm_iand (w32 (a1 - (pm_iand (pm_iushr a1 1) 1431655765))) 858993459) + (pm_iand (pm_iushr (w32 (a1 - (pm_iand (pm_iushr a1 1) 1431655765))) 2) 858993459))) (pc := 22) dJ6_bitCount_0f7a4_22 rfl ?_
  refine fr_istore_n (ls2 := [(0, w32 ((pm_iand (w32 (a1 - (pm_iand (pm_iushr a1 1) 1431655765))) 858993459) + (pm_iand (pm_iushr (w32 (a1 - (pm_iand (pm_iushr a1 1) 1431655765))) 2) 858993459)))]) (pc := 23) dJ6_bitCount_0f7a4_23 rfl (Nat.le_of_ble_eq_true rfl) rfl ?_
  refine fr_iload_n (pc := 24) dJ6_bitCount_0f7a4_24 rfl rfl ?_
  refine fr_iload_n (pc := 25) dJ6_bitCount_0f7a4_25 rfl rfl ?_
  refine fr_iconst (pc := 26) dJ6_bitCount_0f7a4_26 (by decide) ?_
  refine fr_iushr (z := pm_iushr (w32 ((pm_iand (w32 (a1 - (pm_iand (pm_iushr a1 1) 1431655765))) 858993459) + (pm_iand (pm_iushr (w32 (a1 - (pm_iand (pm_iushr a1 1) 1431655765))) 2) 858993459))) 4) (pc := 27) dJ6_bitCount_0f7a4_27 rfl ?_
  refine fr_iadd (z := w32 ((w32 ((pm_iand (w32 (a1 - (pm_iand (pm_iushr a1 1) 1431655765))) 858993459) + (pm_iand (pm_iushr (w32 (a1 - (pm_iand (pm_iushr a1 1) 1431655765))) 2) 858993459))) + (pm_iushr (w32 ((pm_iand (w32 (a1 - (pm_iand (pm_iushr a1 1) 1431655765))) 858993459) + (pm_iand (pm_iushr (w32 (a1 - (pm_iand (pm_iushr a1 1) 1431655765))) 2) 858993459))) 4))) (pc := 28) dJ6_bitCount_0f7a4_28 rfl ?_
  refine fr_ldcw (pc := 29) dJ6_bitCount_0f7a4_29 rfl ?_
  refine fr_iand (z := pm_iand (w32 ((w32 ((pm_iand (w32 (a1 - (pm_iand (pm_iushr a1 1) 1431655765))) 858993459) + (pm_iand (pm_iushr (w32 (a1 - (pm_iand (pm_iushr a1 1) 1431655765))) 2) 858993459))) + (pm_iushr (w32 ((pm_iand (w32 (a1 - (pm_iand (pm_iushr a1 1) 1431655765))) 858993459) + (pm_iand (pm_iushr (w32 (a1 - (pm_iand (pm_iushr a1 1) 1431655765))) 2) 858993459))) 4))) 252645135) (pc := 32) dJ6_bitCount_0f7a4_32 rfl ?_
  refine fr_istore_n (ls2 := [(0, pm_iand (w32 ((w32 ((pm_iand (w32 (a1 - (pm_iand (pm_iushr a1 1) 1431655765))) 858993459) + (pm_iand (pm_iushr (w32 (a1 - (pm_iand (pm_iushr a1 1) 1431655765))) 2) 858993459))) + (pm_iushr (w32 ((pm_iand (w32 (a1 - (pm_iand (pm_iushr a1 1) 1431655765))) 858993459) + (pm_iand (pm_iushr (w32 (a1 - (pm_iand (pm_iushr a1 1) 1431655765))) 2) 858993459))) 4))) 252645135)]) (pc := 33) dJ6_bitCount_0f7a4_33 rfl (Nat.le_of_ble_eq_true rfl) rfl ?_
  refine fr_iload_n (pc := 34) dJ6_bitCount_0f7a4_34 rfl rfl ?_
  refine fr_iload_n (pc := 35) dJ6_bitCount_0f7a4_35 rfl rfl ?_
  refine fr_bipush (pc := 36) dJ6_bitCount_0f7a4_36 (by decide) ?_
  refine fr_iushr (z := pm_iushr (pm_iand (w32 ((w32 ((pm_iand (w32 (a1 - (pm_iand (pm_iushr a1 1) 1431655765))) 858993459) + (pm_iand (pm_iushr (w32 (a1 - (pm_iand (pm_iushr a1 1) 1431655765))) 2) 858993459))) + (pm_iushr (w32 ((pm_iand (w32 (a1 - (pm_iand (pm_iushr a1 1) 1431655765))) 858993459) + (pm_iand (pm_iushr (w32 (a1 - (pm_iand (pm_iushr a1 1) 1431655765))) 2) 858993459))) 4))) 252645135) 8) (pc := 38) dJ6_bitCount_0f7a4_38 rfl ?_
  refine fr_iadd (z := w32 ((pm_iand (w32 ((w32 ((pm_iand (w32 (a1 - (pm_iand (pm_iushr a1 1) 1431655765))) 858993459) + (pm_iand (pm_iushr (w32 (a1 - (pm_iand (pm_iushr a1 1) 1431655765))) 2) 858993459))) + (pm_iushr (w32 ((pm_iand (w32 (a1 - (pm_iand (pm_iushr a1 1) 1431655765))) 858993459) + (pm_iand (pm_iushr (w32 (a1 - (pm_iand (pm_iushr a1 1) 1431655765))) 2) 858993459))) 4))) 252645135) + (pm_iushr (pm_iand (w32 ((w32 ((pm_iand (w32 (a1 - (pm_iand (pm_iushr a1 1) 1431655765))) 858993459) + (pm_iand (pm_iushr (w32 (a1 - (pm_iand (pm_iushr a1 1) 1431655765))) 2) 858993459))) + (pm_iushr (w32 ((pm_iand (w32 (a1 - (pm_iand (pm_iushr a1 1) 1431655765))) 858993459) + (pm_iand (pm_iushr (w32 (a1 - (pm_iand (pm_iushr a1 1) 1431655765))) 2) 858993459))) 4))) 252645135) 8))) (pc := 39) dJ6_bitCount_0f7a4_39 rfl ?_
  refine fr_istore_n (ls2 := [(0, w32 ((pm_iand (w32 ((w32 ((pm_iand (w32 (a1 - (pm_iand (pm_iushr a1 1) 1431655765))) 858993459) + (pm_iand (pm_iushr (w32 (a1 - (pm_iand (pm_iushr a1 1) 1431655765))) 2) 858993459))) + (pm_iushr (w32 ((pm_iand (w32 (a1 - (pm_iand (pm_iushr a1 1) 1431655765))) 858993459) + (pm_iand (pm_iushr (w32 (a1 - (pm_iand (pm_iushr a1 1) 1431655765))) 2) 858993459))) 4))) 252645135) + (pm_iushr (pm_iand (w32 ((w32 ((pm_iand (w32 (a1 - (pm_iand (pm_iushr a1 1) 1431655765))) 858993459) + (pm_iand (pm_iushr (w32 (a1 - (pm_iand (pm_iushr a1 1) 1431655765))) 2) 858993459))) + (pm_iushr (w32 ((pm_iand (w32 (a1 - (pm_iand (pm_iushr a1 1) 1431655765))) 858993459) + (pm_iand (pm_iushr (w32 (a1 - (pm_iand (pm_iushr a1 1) 1431655765))) 2) 858993459))) 4))) 252645135) 8)))]) (pc := 40) dJ6_bitCount_0f7a4_40 rfl (Nat.le_of_ble_eq_true rfl) rfl ?_
  refine fr_iload_n (pc := 41) dJ6_bitCount_0f7a4_41 rfl rfl ?_
  refine fr_iload_n (pc := 42) dJ6_bitCount_0f7a4_42 rfl rfl ?_
  refine fr_bipush (pc := 43) dJ6_bitCount_0f7a4_43 (by decide) ?_
  refine fr_iushr (z := pm_iushr (w32 ((pm_iand (w32 ((w32 ((pm_iand (w32 (a1 - (pm_iand (pm_iushr a1 1) 1431655765))) 858993459) + (pm_iand (pm_iushr (w32 (a1 - (pm_iand (pm_iushr a1 1) 1431655765))) 2) 858993459))) + (pm_iushr (w32 ((pm_iand (w32 (a1 - (pm_iand (pm_iushr a1 1) 1431655765))) 858993459) + (pm_iand (pm_iushr (w32 (a1 - (pm_iand (pm_iushr a1 1) 1431655765))) 2) 858993459))) 4))) 252645135) + (pm_iushr (pm_iand (w32 ((w32 ((pm_iand (w32 (a1 - (pm_iand (pm_iushr a1 1) 1431655765))) 858993459) + (pm_iand (pm_iushr (w32 (a1 - (pm_iand (pm_iushr a1 1) 1431655765))) 2) 858993459))) + (pm_iushr (w32 ((pm_iand (w32 (a1 - (pm_iand (pm_iushr a1 1) 1431655765))) 858993459) + (pm_iand (pm_iushr (w32 (a1 - (pm_iand (pm_iushr a1 1) 1431655765))) 2) 858993459))) 4))) 252645135) 8))) 16) (pc := 45) dJ6_bitCount_0f7a4_45 rfl ?_
  refine fr_iadd (z := w32 ((w32 ((pm_iand (w32 ((w32 ((pm_iand (w32 (a1 - (pm_iand (pm_iushr a1 1) 1431655765))) 858993459) + (pm_iand (pm_iushr (w32 (a1 - (pm_iand (pm_iushr a1 1) 1431655765))) 2) 858993459))) + (pm_iushr (w32 ((pm_iand (w32 (a1 - (pm_iand (pm_iushr a1 1) 1431655765))) 858993459) + (pm_iand (pm_iushr (w32 (a1 - (pm_iand (pm_iushr a1 1) 1431655765))) 2) 858993459))) 4))) 252645135) + (pm_iushr (pm_iand (w32 ((w32 ((pm_iand (w32 (a1 - (pm_iand (pm_iushr a1 1) 1431655765))) 858993459) + (pm_iand (pm_iushr (w32 (a1 - (pm_iand (pm_iushr a1 1) 1431655765))) 2) 858993459))) + (pm_iushr (w32 ((pm_iand (w32 (a1 - (pm_iand (pm_iushr a1 1) 1431655765))) 858993459) + (pm_iand (pm_iushr (w32 (a1 - (pm_iand (pm_iushr a1 1) 1431655765))) 2) 858993459))) 4))) 252645135) 8))) + (pm_iushr (w32 ((pm_iand (w32 ((w32 ((pm_iand (w32 (a1 - (pm_iand (pm_iushr a1 1) 1431655765))) 858993459) + (pm_iand (pm_iushr (w32 (a1 - (pm_iand (pm_iushr a1 1) 1431655765))) 2) 858993459))) + (pm_iushr (w32 ((pm_iand (w32 (a1 - (pm_iand (pm_iushr a1 1) 1431655765))) 858993459) + (pm_iand (pm_iushr (w32 (a1 - (pm_iand (pm_iushr a1 1) 1431655765))) 2) 858993459))) 4))) 252645135) + (pm_iushr (pm_iand (w32 ((w32 ((pm_iand (w32 (a1 - (pm_iand (pm_iushr a1 1) 1431655765))) 858993459) + (pm_iand (pm_iushr (w32 (a1 - (pm_iand (pm_iushr a1 1) 1431655765))) 2) 858993459))) + (pm_iushr (w32 ((pm_iand (w32 (a1 - (pm_iand (pm_iushr a1 1) 1431655765))) 858993459) + (pm_iand (pm_iushr (w32 (a1 - (pm_iand (pm_iushr a1 1) 1431655765))) 2) 858993459))) 4))) 252645135) 8))) 16))) (pc := 46) dJ6_bitCount_0f7a4_46 rfl ?_
  refine fr_istore_n (ls2 := [(0, w32 ((w32 ((pm_iand (w32 ((w32 ((pm_iand (w32 (a1 - (pm_iand (pm_iushr a1 1) 1431655765))) 858993459) + (pm_iand (pm_iushr (w32 (a1 - (pm_iand (pm_iushr a1 1) 1431655765))) 2) 858993459))) + (pm_iushr (w32 ((pm_iand (w32 (a1 - (pm_iand (pm_iushr a1 1) 1431655765))) 858993459) + (pm_iand (pm_iushr (w32 (a1 - (pm_iand (pm_iushr a1 1) 1431655765))) 2) 858993459))) 4))) 252645135) + (pm_iushr (pm_iand (w32 ((w32 ((pm_iand (w32 (a1 - (pm_iand (pm_iushr a1 1) 1431655765))) 858993459) + (pm_iand (pm_iushr (w32 (a1 - (pm_iand (pm_iushr a1 1) 1431655765))) 2) 858993459))) + (pm_iushr (w32 ((pm_iand (w32 (a1 - (pm_iand (pm_iushr a1 1) 1431655765))) 858993459) + (pm_iand (pm_iushr (w32 (a1 - (pm_iand (pm_iushr a1 1) 1431655765))) 2) 858993459))) 4))) 252645135) 8))) + (pm_iushr (w32 ((pm_iand (w32 ((w32 ((pm_iand (w32 (a1 - (pm_iand (pm_iushr a1 1) 1431655765))) 858993459) + (pm_iand (pm_iushr (w32 (a1 - (pm_iand (pm_iushr a1 1) 1431655765))) 2) 858993459))) + (pm_iushr (w32 ((pm_iand (w32 (a1 - (pm_iand (pm_iushr a1 1) 1431655765))) 858993459) + (pm_iand (pm_iushr (w32 (a1 - (pm_iand (pm_iushr a1 1) 1431655765))) 2) 858993459))) 4))) 252645135) + (pm_iushr (pm_iand (w32 ((w32 ((pm_iand (w32 (a1 - (pm_iand (pm_iushr a1 1) 1431655765))) 858993459) + (pm_iand (pm_iushr (w32 (a1 - (pm_iand (pm_iushr a1 1) 1431655765))) 2) 858993459))) + (pm_iushr (w32 ((pm_iand (w32 (a1 - (pm_iand (pm_iushr a1 1) 1431655765))) 858993459) + (pm_iand (pm_iushr (w32 (a1 - (pm_iand (pm_iushr a1 1) 1431655765))) 2) 858993459))) 4))) 252645135) 8))) 16)))]) (pc := 47) dJ6_bitCount_0f7a4_47 rfl (Nat.le_of_ble_eq_true rfl) rfl ?_
  refine fr_iload_n (pc := 48) dJ6_bitCount_0f7a4_48 rfl rfl ?_
  refine fr_bipush (pc := 49) dJ6_bitCount_0f7a4_49 (by decide) ?_
  refine fr_iand (z := pm_iand (w32 ((w32 ((pm_iand (w32 ((w32 ((pm_iand (w32 (a1 - (pm_iand (pm_iushr a1 1) 1431655765))) 858993459) + (pm_iand (pm_iushr (w32 (a1 - (pm_iand (pm_iushr a1 1) 1431655765))) 2) 858993459))) + (pm_iushr (w32 ((pm_iand (w32 (a1 - (pm_iand (pm_iushr a1 1) 1431655765))) 858993459) + (pm_iand (pm_iushr (w32 (a1 - (pm_iand (pm_iushr a1 1) 1431655765))) 2) 858993459))) 4))) 252645135) + (pm_iushr (pm_iand (w32 ((w32 ((pm_iand (w32 (a1 - (pm_iand (pm_iushr a1 1) 1431655765))) 858993459) + (pm_iand (pm_iushr (w32 (a1 - (pm_iand (pm_iushr a1 1) 1431655765))) 2) 858993459))) + (pm_iushr (w32 ((pm_iand (w32 (a1 - (pm_iand (pm_iushr a1 1) 1431655765))) 858993459) + (pm_iand (pm_iushr (w32 (a1 - (pm_iand (pm_iushr a1 1) 1431655765))) 2) 858993459))) 4))) 252645135) 8))) + (pm_iushr (w32 ((pm_iand (w32 ((w32 ((pm_iand (w32 (a1 - (pm_iand (pm_iushr a1 1) 1431655765))) 858993459) + (pm_iand (pm_iushr (w32 (a1 - (pm_iand (pm_iushr a1 1) 1431655765))) 2) 858993459))) + (pm_iushr (w32 ((pm_iand (w32 (a1 - (pm_iand (pm_iushr a1 1) 1431655765))) 858993459) + (pm_iand (pm_iushr (w32 (a1 - (pm_iand (pm_iushr a1 1) 1431655765))) 2) 858993459))) 4))) 252645135) + (pm_iushr (pm_iand (w32 ((w32 ((pm_iand (w32 (a1 - (pm_iand (pm_iushr a1 1) 1431655765))) 858993459) + (pm_iand (pm_iushr (w32 (a1 - (pm_iand (pm_iushr a1 1) 1431655765))) 2) 858993459))) + (pm_iushr (w32 ((pm_iand (w32 (a1 - (pm_iand (pm_iushr a1 1) 1431655765))) 858993459) + (pm_iand (pm_iushr (w32 (a1 - (pm_iand (pm_iushr a1 1) 1431655765))) 2) 858993459))) 4))) 252645135) 8))) 16))) 63) (pc := 51) dJ6_bitCount_0f7a4_51 rfl ?_
  exact fr_iret (pc := 52) dJ6_bitCount_0f7a4_52 (Or.inl rfl) hq
theorem k11_change_r {a1 a2 a3 : Int} {M : pm_M} {K : Int → pm_M → Prop} (hq : k0_hasChange a1 a2 M (fun r2 M1 => (if r2 = 0 then K (-200) M1 else (if a3 = 0 then k11_passingWith a1 a2 0 M1 (fun r6 M5 => K r6 M5) else (if a3 = 1 then k11_passingWith a1 a2 1 M1 (fun r9 M8 => K r9 M8) else (if a3 = 2 then k11_learnRuns M1 (fun M11 => (if gI M11 77 11 ≤ 0 then K 0 M11 else k11_passingWith a1 a2 0 M11 (fun r15 M14 => (if r15 = w32 ((gI M14 18 1) - (gI M14 18 2)) then K 1 M14 else K 0 M14)))) else (if a3 = 3 then k0_makes a1 a2 M1 (fun r19 M18 => K r19 M18) else K (-200) M1))))))) : k11_change a1 a2 a3 M K := by
  intro sc d hd
  refine fr_aload_n (pc := 0) dX11_change_0 rfl rfl ?_
  refine fr_getr (a := 0) (pc := 1) dX11_change_1 rfl pf_11_16 s0_0 rfl rf_0_4 ?_
  refine fr_iload_n (pc := 4) dX11_change_4 rfl rfl ?_
  refine fr_iload_n (pc := 5) dX11_change_5 rfl rfl ?_
  refine fr_inVI (a := 2) (as := [(0, a1), (0, a2)]) (rest := []) (ls' := [(2, 2), (0, a1), (0, a2)]) (c1 := 0) (c2 := 0) (pc := 6) dX11_change_6 pl_11_224 rfl ⟨Nat.le_of_ble_eq_true rfl, Nat.le_of_ble_eq_true rfl⟩ rfl rfl rfl s0_2 (Nat.le_of_ble_eq_true rfl) (by omega) rfl rfl (pm_zc _) (hq sc _ (by omega)) (fun r2 M1 hq => ?_)
  refine fr_ifc_ne (tg := 16) (pc := 9) dX11_change_9 rfl hq (fun hc3 hq => ?_) (fun hc3 hq => ?_)
  · refine fr_sipush (pc := 12) dX11_change_12 (by decide) ?_
    exact fr_iret (pc := 15) dX11_change_15 (Or.inl rfl) hq
  · refine fr_iload_n (pc := 16) dX11_change_16 rfl rfl ?_
    refine pm_ite hq (fun hc4 hq => ?_) (fun hc4 hq => ?_)
    · refine fr_tabV (tg := 48) (off := 31) (v := 0) (pc := 17) dX11_change_17 hc4 (by decide) rfl rfl ?_
      refine fr_aload_n (pc := 48) dX11_change_48 rfl rfl ?_
      refine fr_iload_n (pc := 49) dX11_change_49 rfl rfl ?_
      refine fr_iload_n (pc := 50) dX11_change_50 rfl rfl ?_
      refine fr_iconst (pc := 51) dX11_change_51 (by decide) ?_
      refine fr_inVI (a := 0) (as := [(0, a1), (0, a2), (0, 0)]) (rest := []) (ls' := [(2, 0), (0, a1), (0, a2), (0, 0), (9, 0), (9, 0), (9, 0)]) (c1 := 0) (c2 := 0) (pc := 52) dX11_change_52 pl_11_228 rfl ⟨Nat.le_of_ble_eq_true rfl, Nat.le_of_ble_eq_true rfl⟩ rfl rfl rfl s0_0 (Nat.le_of_ble_eq_true rfl) (by omega) rfl rfl (pm_zc _) (hq sc _ (by omega)) (fun r6 M5 hq => ?_)
      exact fr_iret (pc := 55) dX11_change_55 (Or.inl rfl) hq
    · refine pm_ite hq (fun hc7 hq => ?_) (fun hc7 hq => ?_)
      · refine fr_tabV (tg := 56) (off := 39) (v := 1) (pc := 17) dX11_change_17 hc7 (by decide) rfl rfl ?_
        refine fr_aload_n (pc := 56) dX11_change_56 rfl rfl ?_
        refine fr_iload_n (pc := 57) dX11_change_57 rfl rfl ?_
        refine fr_iload_n (pc := 58) dX11_change_58 rfl rfl ?_
        refine fr_iconst (pc := 59) dX11_change_59 (by decide) ?_
        refine fr_inVI (a := 0) (as := [(0, a1), (0, a2), (0, 1)]) (rest := []) (ls' := [(2, 0), (0, a1), (0, a2), (0, 1), (9, 0), (9, 0), (9, 0)]) (c1 := 0) (c2 := 0) (pc := 60) dX11_change_60 pl_11_228 rfl ⟨Nat.le_of_ble_eq_true rfl, Nat.le_of_ble_eq_true rfl⟩ rfl rfl rfl s0_0 (Nat.le_of_ble_eq_true rfl) (by omega) rfl rfl (pm_zc _) (hq sc _ (by omega)) (fun r9 M8 hq => ?_)
        exact fr_iret (pc := 63) dX11_change_63 (Or.inl rfl) hq
      · refine pm_ite hq (fun hc10 hq => ?_) (fun hc10 hq => ?_)
        · refine fr_tabV (tg := 64) (off := 47) (v := 2) (pc := 17) dX11_change_17 hc10 (by decide) rfl rfl ?_
          refine fr_aload_n (pc := 64) dX11_change_64 rfl rfl ?_
          refine fr_inVV (a := 0) (as := []) (rest := []) (ls' := [(2, 0)]) (c1 := 0) (c2 := 0) (pc := 65) dX11_change_65 pl_11_195 rfl ⟨Nat.le_of_ble_eq_true rfl, Nat.le_of_ble_eq_true rfl⟩ rfl rfl rfl s0_0 (Nat.le_of_ble_eq_true rfl) (by omega) rfl rfl (pm_zc _) (hq sc _ (by omega)) (fun M11 hq => ?_)
          refine fr_aload_n (pc := 68) dX11_change_68 rfl rfl ?_
          refine fr_getr (a := 0) (pc := 69) dX11_change_69 rfl pf_11_68 s0_0 rfl rf_0_9 ?_
          refine fr_getf (a := 77) (i := 11) (v := gI M11 77 11) (t := 0) (pc := 72) dX11_change_72 rfl pf_11_203 rfl s0_77 rfl rfl ?_
          refine fr_ifc_le (tg := 99) (pc := 75) dX11_change_75 rfl hq (fun hc13 hq => ?_) (fun hc13 hq => ?_)
          · refine fr_iconst (pc := 99) dX11_change_99 (by decide) ?_
            exact fr_iret (pc := 100) dX11_change_100 (Or.inl rfl) hq
          · refine fr_aload_n (pc := 78) dX11_change_78 rfl rfl ?_
            refine fr_iload_n (pc := 79) dX11_change_79 rfl rfl ?_
            refine fr_iload_n (pc := 80) dX11_change_80 rfl rfl ?_
            refine fr_iconst (pc := 81) dX11_change_81 (by decide) ?_
            refine fr_inVI (a := 0) (as := [(0, a1), (0, a2), (0, 0)]) (rest := []) (ls' := [(2, 0), (0, a1), (0, a2), (0, 0), (9, 0), (9, 0), (9, 0)]) (c1 := 0) (c2 := 0) (pc := 82) dX11_change_82 pl_11_228 rfl ⟨Nat.le_of_ble_eq_true rfl, Nat.le_of_ble_eq_true rfl⟩ rfl rfl rfl s0_0 (Nat.le_of_ble_eq_true rfl) (by omega) rfl rfl (pm_zc _) (hq sc _ (by omega)) (fun r15 M14 hq => ?_)
            refine fr_aload_n (pc := 85) dX11_change_85 rfl rfl ?_
            refine fr_getr (a := 0) (pc := 86) dX11_change_86 rfl pf_11_23 s0_0 rfl rf_0_5 ?_
            refine fr_inVI (a := 18) (as := []) (rest := [(0, r15)]) (ls' := [(2, 18)]) (c1 := 0) (c2 := 0) (pc := 89) dX11_change_89 pl_11_232 rfl ⟨Nat.le_of_ble_eq_true rfl, Nat.le_of_ble_eq_true rfl⟩ rfl rfl rfl s0_18 (Nat.le_of_ble_eq_true rfl) (by omega) rfl rfl (pm_zc _) ?_ (fun y M' h => h)
            refine fr_aload_n (pc := 0) dX8_shownCount_0 rfl rfl ?_
            refine fr_getf (a := 18) (i := 1) (v := gI M14 18 1) (t := 0) (pc := 1) dX8_shownCount_1 rfl pf_8_16 rfl s0_18 rfl rfl ?_
            refine fr_aload_n (pc := 4) dX8_shownCount_4 rfl rfl ?_
            refine fr_getf (a := 18) (i := 2) (v := gI M14 18 2) (t := 0) (pc := 5) dX8_shownCount_5 rfl pf_8_20 rfl s0_18 rfl rfl ?_
            refine fr_isub (z := w32 ((gI M14 18 1) - (gI M14 18 2))) (pc := 8) dX8_shownCount_8 rfl ?_
            refine fr_iret (pc := 9) dX8_shownCount_9 (Or.inl rfl) ?_
            refine fr_icm_ne (tg := 99) (pc := 92) dX11_change_92 rfl hq (fun hc16 hq => ?_) (fun hc16 hq => ?_)
            · refine fr_iconst (pc := 95) dX11_change_95 (by decide) ?_
              refine fr_goto (tg := 100) (pc := 96) dX11_change_96 rfl ?_
              exact fr_iret (pc := 100) dX11_change_100 (Or.inl rfl) hq
            · refine fr_iconst (pc := 99) dX11_change_99 (by decide) ?_
              exact fr_iret (pc := 100) dX11_change_100 (Or.inl rfl) hq
        · refine pm_ite hq (fun hc17 hq => ?_) (fun hc17 hq => ?_)
          · refine fr_tabV (tg := 101) (off := 84) (v := 3) (pc := 17) dX11_change_17 hc17 (by decide) rfl rfl ?_
            refine fr_aload_n (pc := 101) dX11_change_101 rfl rfl ?_
            refine fr_getr (a := 0) (pc := 102) dX11_change_102 rfl pf_11_16 s0_0 rfl rf_0_4 ?_
            refine fr_iload_n (pc := 105) dX11_change_105 rfl rfl ?_
            refine fr_iload_n (pc := 106) dX11_change_106 rfl rfl ?_
            refine fr_inVI (a := 2) (as := [(0, a1), (0, a2)]) (rest := []) (ls' := [(2, 2), (0, a1), (0, a2)]) (c1 := 0) (c2 := 0) (pc := 107) dX11_change_107 pl_11_236 rfl ⟨Nat.le_of_ble_eq_true rfl, Nat.le_of_ble_eq_true rfl⟩ rfl rfl rfl s0_2 (Nat.le_of_ble_eq_true rfl) (by omega) rfl rfl (pm_zc _) (hq sc _ (by omega)) (fun r19 M18 hq => ?_)
            exact fr_iret (pc := 110) dX11_change_110 (Or.inl rfl) hq
          · refine fr_tableO (tg := 111) (pc := 17) dX11_change_17 (by omega) rfl ?_
            refine fr_sipush (pc := 111) dX11_change_111 (by decide) ?_
            exact fr_iret (pc := 114) dX11_change_114 (Or.inl rfl) hq
theorem k0_hasChange_r {a1 a2 : Int} {M : pm_M} {K : Int → pm_M → Prop} (hq : (if a1 < 0 then K 0 M else (if a1 < gI M 2 15 then (if a2 < 0 then K 0 M else k0_changeCount a1 M (fun r5 M4 => (if a2 < r5 then K 1 M4 else K 0 M4))) else K 0 M))) : k0_hasChange a1 a2 M K := by
  intro sc d hd
  refine fr_aload_n (pc := 0) dX0_hasChange_0 rfl rfl ?_
  refine fr_iload_n (pc := 1) dX0_hasChange_1 rfl rfl ?_
  refine fr_inVI (a := 2) (as := [(0, a1)]) (rest := []) (ls' := [(2, 2), (0, a1)]) (c1 := 0) (c2 := 0) (pc := 2) dX0_hasChange_2 pl_0_97 rfl ⟨Nat.le_of_ble_eq_true rfl, Nat.le_of_ble_eq_true rfl⟩ rfl rfl rfl s0_2 (Nat.le_of_ble_eq_true rfl) (by omega) rfl rfl (pm_zc _) ?_ (fun y M' h => h)
  refine fr_iload_n (pc := 0) dX0_hasNode_0 rfl rfl ?_
  refine fr_ifc_lt (tg := 16) (pc := 1) dX0_hasNode_1 rfl hq (fun hc1 hq => ?_) (fun hc1 hq => ?_)
  · refine fr_iconst (pc := 16) dX0_hasNode_16 (by decide) ?_
    refine fr_iret (pc := 17) dX0_hasNode_17 (Or.inr (Or.inl ⟨rfl, Or.inl rfl⟩)) ?_
    refine fr_ifcT (tg := 25) (pc := 5) dX0_hasChange_5 rfl rfl ?_
    refine fr_iconst (pc := 25) dX0_hasChange_25 (by decide) ?_
    exact fr_iret (pc := 26) dX0_hasChange_26 (Or.inr (Or.inl ⟨rfl, Or.inl rfl⟩)) hq
  · refine fr_iload_n (pc := 4) dX0_hasNode_4 rfl rfl ?_
    refine fr_aload_n (pc := 5) dX0_hasNode_5 rfl rfl ?_
    refine fr_getf (a := 2) (i := 15) (v := gI M 2 15) (t := 0) (pc := 6) dX0_hasNode_6 rfl pf_0_57 rfl s0_2 rfl rfl ?_
    refine fr_icm_ge (tg := 16) (pc := 9) dX0_hasNode_9 rfl hq (fun hc2 hq => ?_) (fun hc2 hq => ?_)
    · refine fr_iconst (pc := 12) dX0_hasNode_12 (by decide) ?_
      refine fr_goto (tg := 17) (pc := 13) dX0_hasNode_13 rfl ?_
      refine fr_iret (pc := 17) dX0_hasNode_17 (Or.inr (Or.inl ⟨rfl, Or.inr rfl⟩)) ?_
      refine fr_ifcF (tg := 25) (pc := 5) dX0_hasChange_5 rfl rfl ?_
      refine fr_iload_n (pc := 8) dX0_hasChange_8 rfl rfl ?_
      refine fr_ifc_lt (tg := 25) (pc := 9) dX0_hasChange_9 rfl hq (fun hc3 hq => ?_) (fun hc3 hq => ?_)
      · refine fr_iconst (pc := 25) dX0_hasChange_25 (by decide) ?_
        exact fr_iret (pc := 26) dX0_hasChange_26 (Or.inr (Or.inl ⟨rfl, Or.inl rfl⟩)) hq
      · refine fr_iload_n (pc := 12) dX0_hasChange_12 rfl rfl ?_
        refine fr_aload_n (pc := 13) dX0_hasChange_13 rfl rfl ?_
        refine fr_iload_n (pc := 14) dX0_hasChange_14 rfl rfl ?_
        refine fr_inVI (a := 2) (as := [(0, a1)]) (rest := [(0, a2)]) (ls' := [(2, 2), (0, a1)]) (c1 := 0) (c2 := 0) (pc := 15) dX0_hasChange_15 pl_0_101 rfl ⟨Nat.le_of_ble_eq_true rfl, Nat.le_of_ble_eq_true rfl⟩ rfl rfl rfl s0_2 (Nat.le_of_ble_eq_true rfl) (by omega) rfl rfl (pm_zc _) (hq sc _ (by omega)) (fun r5 M4 hq => ?_)
        refine fr_icm_ge (tg := 25) (pc := 18) dX0_hasChange_18 rfl hq (fun hc6 hq => ?_) (fun hc6 hq => ?_)
        · refine fr_iconst (pc := 21) dX0_hasChange_21 (by decide) ?_
          refine fr_goto (tg := 26) (pc := 22) dX0_hasChange_22 rfl ?_
          exact fr_iret (pc := 26) dX0_hasChange_26 (Or.inr (Or.inl ⟨rfl, Or.inr rfl⟩)) hq
        · refine fr_iconst (pc := 25) dX0_hasChange_25 (by decide) ?_
          exact fr_iret (pc := 26) dX0_hasChange_26 (Or.inr (Or.inl ⟨rfl, Or.inl rfl⟩)) hq
    · refine fr_iconst (pc := 16) dX0_hasNode_16 (by decide) ?_
      refine fr_iret (pc := 17) dX0_hasNode_17 (Or.inr (Or.inl ⟨rfl, Or.inl rfl⟩)) ?_
      refine fr_ifcT (tg := 25) (pc := 5) dX0_hasChange_5 rfl rfl ?_
      refine fr_iconst (pc := 25) dX0_hasChange_25 (by decide) ?_
      exact fr_iret (pc := 26) dX0_hasChange_26 (Or.inr (Or.inl ⟨rfl, Or.inl rfl⟩)) hq
theorem k11_passingWith_r {a1 a2 a3 : Int} {M : pm_M} {K : Int → pm_M → Prop} (hq : ((0 ≤ a1 ∧ a1 < 60) ∧ k0_apply a1 a2 M (fun M2 => k1_countPassing a3 M2 (fun r5 M4 => K r5 (upI (upI M4 4 a1 (gI M 4 a1)) 5 a1 (gI M 5 a1)))))) : k11_passingWith a1 a2 a3 M K := by
  intro sc d hd
  refine fr_aload_n (pc := 0) dX11_passingWith_0 rfl rfl ?_
  refine fr_getr (a := 0) (pc := 1) dX11_passingWith_1 rfl pf_11_16 s0_0 rfl rf_0_4 ?_
  refine fr_getr (a := 2) (pc := 4) dX11_passingWith_4 rfl pf_11_344 s0_2 rfl rf_2_1 ?_
  refine fr_iload_n (pc := 7) dX11_passingWith_7 rfl rfl ?_
  obtain ⟨hb1, hq⟩ := hq
  refine fr_iaload (a := 4) (v := gI M 4 a1) (pc := 8) dX11_passingWith_8 rfl s0_4 hb1 rfl ?_
  refine fr_istore (ls2 := [(2, 0), (0, a1), (0, a2), (0, a3), (0, gI M 4 a1), (9, 0), (9, 0)]) (pc := 9) dX11_passingWith_9 rfl (Nat.le_of_ble_eq_true rfl) rfl ?_
  refine fr_aload_n (pc := 11) dX11_passingWith_11 rfl rfl ?_
  refine fr_getr (a := 0) (pc := 12) dX11_passingWith_12 rfl pf_11_16 s0_0 rfl rf_0_4 ?_
  refine fr_getr (a := 2) (pc := 15) dX11_passingWith_15 rfl pf_11_156 s0_2 rfl rf_2_2 ?_
  refine fr_iload_n (pc := 18) dX11_passingWith_18 rfl rfl ?_
  refine fr_iaload (a := 5) (v := gI M 5 a1) (pc := 19) dX11_passingWith_19 rfl s0_5 hb1 rfl ?_
  refine fr_istore (ls2 := [(2, 0), (0, a1), (0, a2), (0, a3), (0, gI M 4 a1), (0, gI M 5 a1), (9, 0)]) (pc := 20) dX11_passingWith_20 rfl (Nat.le_of_ble_eq_true rfl) rfl ?_
  refine fr_aload_n (pc := 22) dX11_passingWith_22 rfl rfl ?_
  refine fr_getr (a := 0) (pc := 23) dX11_passingWith_23 rfl pf_11_16 s0_0 rfl rf_0_4 ?_
  refine fr_iload_n (pc := 26) dX11_passingWith_26 rfl rfl ?_
  refine fr_iload_n (pc := 27) dX11_passingWith_27 rfl rfl ?_
  refine fr_inVV (a := 2) (as := [(0, a1), (0, a2)]) (rest := []) (ls' := [(2, 2), (0, a1), (0, a2)]) (c1 := 0) (c2 := 0) (pc := 28) dX11_passingWith_28 pl_11_347 rfl ⟨Nat.le_of_ble_eq_true rfl, Nat.le_of_ble_eq_true rfl⟩ rfl rfl rfl s0_2 (Nat.le_of_ble_eq_true rfl) (by omega) rfl rfl (pm_zc _) (hq sc _ (by omega)) (fun M2 hq => ?_)
  refine fr_aload_n (pc := 31) dX11_passingWith_31 rfl rfl ?_
  refine fr_getr (a := 0) (pc := 32) dX11_passingWith_32 rfl pf_11_59 s0_0 rfl rf_0_8 ?_
  refine fr_iload_n (pc := 35) dX11_passingWith_35 rfl rfl ?_
  refine fr_inVI (a := 73) (as := [(0, a3)]) (rest := []) (ls' := [(2, 73), (0, a3), (9, 0), (9, 0)]) (c1 := 0) (c2 := 0) (pc := 36) dX11_passingWith_36 pl_11_350 rfl ⟨Nat.le_of_ble_eq_true rfl, Nat.le_of_ble_eq_true rfl⟩ rfl rfl rfl s0_73 (Nat.le_of_ble_eq_true rfl) (by omega) rfl rfl (pm_zc _) (hq sc _ (by omega)) (fun r5 M4 hq => ?_)
  refine fr_istore (ls2 := [(2, 0), (0, a1), (0, a2), (0, a3), (0, gI M 4 a1), (0, gI M 5 a1), (0, r5)]) (pc := 39) dX11_passingWith_39 rfl (Nat.le_of_ble_eq_true rfl) rfl ?_
  refine fr_aload_n (pc := 41) dX11_passingWith_41 rfl rfl ?_
  refine fr_getr (a := 0) (pc := 42) dX11_passingWith_42 rfl pf_11_16 s0_0 rfl rf_0_4 ?_
  refine fr_iload_n (pc := 45) dX11_passingWith_45 rfl rfl ?_
  refine fr_iload (pc := 46) dX11_passingWith_46 rfl rfl ?_
  refine fr_iload (pc := 48) dX11_passingWith_48 rfl rfl ?_
  refine fr_inVV (a := 2) (as := [(0, a1), (0, gI M 4 a1), (0, gI M 5 a1)]) (rest := []) (ls' := [(2, 2), (0, a1), (0, gI M 4 a1), (0, gI M 5 a1)]) (c1 := 0) (c2 := 0) (pc := 50) dX11_passingWith_50 pl_11_354 rfl ⟨Nat.le_of_ble_eq_true rfl, Nat.le_of_ble_eq_true rfl⟩ rfl rfl rfl s0_2 (Nat.le_of_ble_eq_true rfl) (by omega) rfl rfl (pm_zc _) ?_ (fun M' h => h)
  refine fr_aload_n (pc := 0) dX0_restore_0 rfl rfl ?_
  refine fr_getr (a := 2) (pc := 1) dX0_restore_1 rfl pf_0_15 s0_2 rfl rf_2_1 ?_
  refine fr_iload_n (pc := 4) dX0_restore_4 rfl rfl ?_
  refine fr_iload_n (pc := 5) dX0_restore_5 rfl rfl ?_
  refine fr_iastore (a := 4) (pc := 6) dX0_restore_6 rfl s0_4 hb1 nr_4 ?_
  refine fr_aload_n (pc := 7) dX0_restore_7 rfl rfl ?_
  refine fr_getr (a := 2) (pc := 8) dX0_restore_8 rfl pf_0_18 s0_2 rfl rf_2_2 ?_
  refine fr_iload_n (pc := 11) dX0_restore_11 rfl rfl ?_
  refine fr_iload_n (pc := 12) dX0_restore_12 rfl rfl ?_
  refine fr_iastore (a := 5) (pc := 13) dX0_restore_13 rfl s0_5 hb1 nr_5 ?_
  refine fr_vret (pc := 14) dX0_restore_14 rfl ?_
  refine fr_iload (pc := 53) dX11_passingWith_53 rfl rfl ?_
  exact fr_iret (pc := 55) dX11_passingWith_55 (Or.inl rfl) hq
theorem k0_apply_r {a1 a2 : Int} {M : pm_M} {K : pm_M → Prop} (hq : ((0 ≤ a1 ∧ a1 < 60) ∧ (if gI M 3 a1 = 1 then (if a2 = 1 then K (upI M 5 a1 1) else (if gI M 5 a1 = 2 then K (upI M 5 a1 0) else K (upI M 5 a1 2))) else (if gI M 3 a1 = 2 then (if a2 = 1 then K (upI M 5 a1 1) else (if gI M 5 a1 = 2 then K (upI M 5 a1 0) else K (upI M 5 a1 2))) else (if gI M 3 a1 = 3 then K (upI M 5 a1 1) else (if gI M 3 a1 = 4 then k0_makes a1 a2 M (fun r11 M10 => K (upI M10 4 a1 r11)) else (if gI M 3 a1 = 5 then k0_makes a1 a2 M (fun r14 M13 => K (upI M13 4 a1 r14)) else (if gI M 3 a1 = 6 then K (upI M 5 a1 1) else (if gI M 3 a1 = 7 then k0_makes a1 a2 M (fun r18 M17 => (if r18 = (-100) then (if gI M17 5 a1 = 3 then K (upI M17 5 a1 0) else K (upI M17 5 a1 3)) else K (upI M17 4 a1 r18))) else K (upI M 5 a1 1)))))))))) : k0_apply a1 a2 M K := by
  intro sc d hd
  refine fr_aload_n (pc := 0) dX0_apply_0 rfl rfl ?_
  refine fr_getr (a := 2) (pc := 1) dX0_apply_1 rfl pf_0_9 s0_2 rfl rf_2_0 ?_
  refine fr_iload_n (pc := 4) dX0_apply_4 rfl rfl ?_
  obtain ⟨hb1, hq⟩ := hq
  refine fr_iaload (a := 3) (v := gI M 3 a1) (pc := 5) dX0_apply_5 rfl s0_3 hb1 rfl ?_
  refine pm_ite hq (fun hc2 hq => ?_) (fun hc2 hq => ?_)
  · refine fr_tabV (tg := 77) (off := 71) (v := 1) (pc := 6) dX0_apply_6 hc2 (by decide) rfl rfl ?_
    refine fr_aload_n (pc := 77) dX0_apply_77 rfl rfl ?_
    refine fr_getr (a := 2) (pc := 78) dX0_apply_78 rfl pf_0_18 s0_2 rfl rf_2_2 ?_
    refine fr_iload_n (pc := 81) dX0_apply_81 rfl rfl ?_
    refine fr_iload_n (pc := 82) dX0_apply_82 rfl rfl ?_
    refine fr_iconst (pc := 83) dX0_apply_83 (by decide) ?_
    refine fr_icm_ne (tg := 91) (pc := 84) dX0_apply_84 rfl hq (fun hc3 hq => ?_) (fun hc3 hq => ?_)
    · refine fr_iconst (pc := 87) dX0_apply_87 (by decide) ?_
      refine fr_goto (tg := 106) (pc := 88) dX0_apply_88 rfl ?_
      refine fr_iastore (a := 5) (pc := 106) dX0_apply_106 rfl s0_5 hb1 nr_5 ?_
      refine fr_goto (tg := 117) (pc := 107) dX0_apply_107 rfl ?_
      exact fr_vret (pc := 117) dX0_apply_117 rfl hq
    · refine fr_aload_n (pc := 91) dX0_apply_91 rfl rfl ?_
      refine fr_getr (a := 2) (pc := 92) dX0_apply_92 rfl pf_0_18 s0_2 rfl rf_2_2 ?_
      refine fr_iload_n (pc := 95) dX0_apply_95 rfl rfl ?_
      refine fr_iaload (a := 5) (v := gI M 5 a1) (pc := 96) dX0_apply_96 rfl s0_5 hb1 rfl ?_
      refine fr_iconst (pc := 97) dX0_apply_97 (by decide) ?_
      refine fr_icm_ne (tg := 105) (pc := 98) dX0_apply_98 rfl hq (fun hc4 hq => ?_) (fun hc4 hq => ?_)
      · refine fr_iconst (pc := 101) dX0_apply_101 (by decide) ?_
        refine fr_goto (tg := 106) (pc := 102) dX0_apply_102 rfl ?_
        refine fr_iastore (a := 5) (pc := 106) dX0_apply_106 rfl s0_5 hb1 nr_5 ?_
        refine fr_goto (tg := 117) (pc := 107) dX0_apply_107 rfl ?_
        exact fr_vret (pc := 117) dX0_apply_117 rfl hq
      · refine fr_iconst (pc := 105) dX0_apply_105 (by decide) ?_
        refine fr_iastore (a := 5) (pc := 106) dX0_apply_106 rfl s0_5 hb1 nr_5 ?_
        refine fr_goto (tg := 117) (pc := 107) dX0_apply_107 rfl ?_
        exact fr_vret (pc := 117) dX0_apply_117 rfl hq
  · refine pm_ite hq (fun hc5 hq => ?_) (fun hc5 hq => ?_)
    · refine fr_tabV (tg := 77) (off := 71) (v := 2) (pc := 6) dX0_apply_6 hc5 (by decide) rfl rfl ?_
      refine fr_aload_n (pc := 77) dX0_apply_77 rfl rfl ?_
      refine fr_getr (a := 2) (pc := 78) dX0_apply_78 rfl pf_0_18 s0_2 rfl rf_2_2 ?_
      refine fr_iload_n (pc := 81) dX0_apply_81 rfl rfl ?_
      refine fr_iload_n (pc := 82) dX0_apply_82 rfl rfl ?_
      refine fr_iconst (pc := 83) dX0_apply_83 (by decide) ?_
      refine fr_icm_ne (tg := 91) (pc := 84) dX0_apply_84 rfl hq (fun hc6 hq => ?_) (fun hc6 hq => ?_)
      · refine fr_iconst (pc := 87) dX0_apply_87 (by decide) ?_
        refine fr_goto (tg := 106) (pc := 88) dX0_apply_88 rfl ?_
        refine fr_iastore (a := 5) (pc := 106) dX0_apply_106 rfl s0_5 hb1 nr_5 ?_
        refine fr_goto (tg := 117) (pc := 107) dX0_apply_107 rfl ?_
        exact fr_vret (pc := 117) dX0_apply_117 rfl hq
      · refine fr_aload_n (pc := 91) dX0_apply_91 rfl rfl ?_
        refine fr_getr (a := 2) (pc := 92) dX0_apply_92 rfl pf_0_18 s0_2 rfl rf_2_2 ?_
        refine fr_iload_n (pc := 95) dX0_apply_95 rfl rfl ?_
        refine fr_iaload (a := 5) (v := gI M 5 a1) (pc := 96) dX0_apply_96 rfl s0_5 hb1 rfl ?_
        refine fr_iconst (pc := 97) dX0_apply_97 (by decide) ?_
        refine fr_icm_ne (tg := 105) (pc := 98) dX0_apply_98 rfl hq (fun hc7 hq => ?_) (fun hc7 hq => ?_)
        · refine fr_iconst (pc := 101) dX0_apply_101 (by decide) ?_
          refine fr_goto (tg := 106) (pc := 102) dX0_apply_102 rfl ?_
          refine fr_iastore (a := 5) (pc := 106) dX0_apply_106 rfl s0_5 hb1 nr_5 ?_
          refine fr_goto (tg := 117) (pc := 107) dX0_apply_107 rfl ?_
          exact fr_vret (pc := 117) dX0_apply_117 rfl hq
        · refine fr_iconst (pc := 105) dX0_apply_105 (by decide) ?_
          refine fr_iastore (a := 5) (pc := 106) dX0_apply_106 rfl s0_5 hb1 nr_5 ?_
          refine fr_goto (tg := 117) (pc := 107) dX0_apply_107 rfl ?_
          exact fr_vret (pc := 117) dX0_apply_117 rfl hq
    · refine pm_ite hq (fun hc8 hq => ?_) (fun hc8 hq => ?_)
      · refine fr_tabV (tg := 110) (off := 104) (v := 3) (pc := 6) dX0_apply_6 hc8 (by decide) rfl rfl ?_
        refine fr_aload_n (pc := 110) dX0_apply_110 rfl rfl ?_
        refine fr_getr (a := 2) (pc := 111) dX0_apply_111 rfl pf_0_18 s0_2 rfl rf_2_2 ?_
        refine fr_iload_n (pc := 114) dX0_apply_114 rfl rfl ?_
        refine fr_iconst (pc := 115) dX0_apply_115 (by decide) ?_
        refine fr_iastore (a := 5) (pc := 116) dX0_apply_116 rfl s0_5 hb1 nr_5 ?_
        exact fr_vret (pc := 117) dX0_apply_117 rfl hq
      · refine pm_ite hq (fun hc9 hq => ?_) (fun hc9 hq => ?_)
        · refine fr_tabV (tg := 48) (off := 42) (v := 4) (pc := 6) dX0_apply_6 hc9 (by decide) rfl rfl ?_
          refine fr_aload_n (pc := 48) dX0_apply_48 rfl rfl ?_
          refine fr_getr (a := 2) (pc := 49) dX0_apply_49 rfl pf_0_15 s0_2 rfl rf_2_1 ?_
          refine fr_iload_n (pc := 52) dX0_apply_52 rfl rfl ?_
          refine fr_aload_n (pc := 53) dX0_apply_53 rfl rfl ?_
          refine fr_iload_n (pc := 54) dX0_apply_54 rfl rfl ?_
          refine fr_iload_n (pc := 55) dX0_apply_55 rfl rfl ?_
          refine fr_inVI (a := 2) (as := [(0, a1), (0, a2)]) (rest := [(0, a1), (2, 4)]) (ls' := [(2, 2), (0, a1), (0, a2)]) (c1 := 0) (c2 := 0) (pc := 56) dX0_apply_56 pl_0_124 rfl ⟨Nat.le_of_ble_eq_true rfl, Nat.le_of_ble_eq_true rfl⟩ rfl rfl rfl s0_2 (Nat.le_of_ble_eq_true rfl) (by omega) rfl rfl (pm_zc _) (hq sc _ (by omega)) (fun r11 M10 hq => ?_)
          refine fr_iastore (a := 4) (pc := 59) dX0_apply_59 rfl s0_4 hb1 nr_4 ?_
          refine fr_goto (tg := 117) (pc := 60) dX0_apply_60 rfl ?_
          exact fr_vret (pc := 117) dX0_apply_117 rfl hq
        · refine pm_ite hq (fun hc12 hq => ?_) (fun hc12 hq => ?_)
          · refine fr_tabV (tg := 48) (off := 42) (v := 5) (pc := 6) dX0_apply_6 hc12 (by decide) rfl rfl ?_
            refine fr_aload_n (pc := 48) dX0_apply_48 rfl rfl ?_
            refine fr_getr (a := 2) (pc := 49) dX0_apply_49 rfl pf_0_15 s0_2 rfl rf_2_1 ?_
            refine fr_iload_n (pc := 52) dX0_apply_52 rfl rfl ?_
            refine fr_aload_n (pc := 53) dX0_apply_53 rfl rfl ?_
            refine fr_iload_n (pc := 54) dX0_apply_54 rfl rfl ?_
            refine fr_iload_n (pc := 55) dX0_apply_55 rfl rfl ?_
            refine fr_inVI (a := 2) (as := [(0, a1), (0, a2)]) (rest := [(0, a1), (2, 4)]) (ls' := [(2, 2), (0, a1), (0, a2)]) (c1 := 0) (c2 := 0) (pc := 56) dX0_apply_56 pl_0_124 rfl ⟨Nat.le_of_ble_eq_true rfl, Nat.le_of_ble_eq_true rfl⟩ rfl rfl rfl s0_2 (Nat.le_of_ble_eq_true rfl) (by omega) rfl rfl (pm_zc _) (hq sc _ (by omega)) (fun r14 M13 hq => ?_)
            refine fr_iastore (a := 4) (pc := 59) dX0_apply_59 rfl s0_4 hb1 nr_4 ?_
            refine fr_goto (tg := 117) (pc := 60) dX0_apply_60 rfl ?_
            exact fr_vret (pc := 117) dX0_apply_117 rfl hq
          · refine pm_ite hq (fun hc15 hq => ?_) (fun hc15 hq => ?_)
            · refine fr_tabV (tg := 110) (off := 104) (v := 6) (pc := 6) dX0_apply_6 hc15 (by decide) rfl rfl ?_
              refine fr_aload_n (pc := 110) dX0_apply_110 rfl rfl ?_
              refine fr_getr (a := 2) (pc := 111) dX0_apply_111 rfl pf_0_18 s0_2 rfl rf_2_2 ?_
              refine fr_iload_n (pc := 114) dX0_apply_114 rfl rfl ?_
              refine fr_iconst (pc := 115) dX0_apply_115 (by decide) ?_
              refine fr_iastore (a := 5) (pc := 116) dX0_apply_116 rfl s0_5 hb1 nr_5 ?_
              exact fr_vret (pc := 117) dX0_apply_117 rfl hq
            · refine pm_ite hq (fun hc16 hq => ?_) (fun hc16 hq => ?_)
              · refine fr_tabV (tg := 63) (off := 57) (v := 7) (pc := 6) dX0_apply_6 hc16 (by decide) rfl rfl ?_
                refine fr_aload_n (pc := 63) dX0_apply_63 rfl rfl ?_
                refine fr_iload_n (pc := 64) dX0_apply_64 rfl rfl ?_
                refine fr_aload_n (pc := 65) dX0_apply_65 rfl rfl ?_
                refine fr_iload_n (pc := 66) dX0_apply_66 rfl rfl ?_
                refine fr_iload_n (pc := 67) dX0_apply_67 rfl rfl ?_
                refine fr_inVI (a := 2) (as := [(0, a1), (0, a2)]) (rest := [(0, a1), (2, 2)]) (ls' := [(2, 2), (0, a1), (0, a2)]) (c1 := 0) (c2 := 0) (pc := 68) dX0_apply_68 pl_0_124 rfl ⟨Nat.le_of_ble_eq_true rfl, Nat.le_of_ble_eq_true rfl⟩ rfl rfl rfl s0_2 (Nat.le_of_ble_eq_true rfl) (by omega) rfl rfl (pm_zc _) (hq sc _ (by omega)) (fun r18 M17 hq => ?_)
                refine fr_inVV (a := 2) (as := [(0, a1), (0, r18)]) (rest := []) (ls' := [(2, 2), (0, a1), (0, r18)]) (c1 := 0) (c2 := 0) (pc := 71) dX0_apply_71 pl_0_127 rfl ⟨Nat.le_of_ble_eq_true rfl, Nat.le_of_ble_eq_true rfl⟩ rfl rfl rfl s0_2 (Nat.le_of_ble_eq_true rfl) (by omega) rfl rfl (pm_zc _) ?_ (fun M' h => h)
                refine fr_iload_n (pc := 0) dX0_changeSides_0 rfl rfl ?_
                refine fr_bipush (pc := 1) dX0_changeSides_1 (by decide) ?_
                refine fr_icm_eq (tg := 16) (pc := 3) dX0_changeSides_3 rfl hq (fun hc19 hq => ?_) (fun hc19 hq => ?_)
                · refine fr_aload_n (pc := 16) dX0_changeSides_16 rfl rfl ?_
                  refine fr_getr (a := 2) (pc := 17) dX0_changeSides_17 rfl pf_0_18 s0_2 rfl rf_2_2 ?_
                  refine fr_iload_n (pc := 20) dX0_changeSides_20 rfl rfl ?_
                  refine fr_aload_n (pc := 21) dX0_changeSides_21 rfl rfl ?_
                  refine fr_getr (a := 2) (pc := 22) dX0_changeSides_22 rfl pf_0_18 s0_2 rfl rf_2_2 ?_
                  refine fr_iload_n (pc := 25) dX0_changeSides_25 rfl rfl ?_
                  refine fr_iaload (a := 5) (v := gI M17 5 a1) (pc := 26) dX0_changeSides_26 rfl s0_5 hb1 rfl ?_
                  refine fr_iconst (pc := 27) dX0_changeSides_27 (by decide) ?_
                  refine fr_icm_ne (tg := 35) (pc := 28) dX0_changeSides_28 rfl hq (fun hc20 hq => ?_) (fun hc20 hq => ?_)
                  · refine fr_iconst (pc := 31) dX0_changeSides_31 (by decide) ?_
                    refine fr_goto (tg := 36) (pc := 32) dX0_changeSides_32 rfl ?_
                    refine fr_iastore (a := 5) (pc := 36) dX0_changeSides_36 rfl s0_5 hb1 nr_5 ?_
                    refine fr_vret (pc := 37) dX0_changeSides_37 rfl ?_
                    refine fr_goto (tg := 117) (pc := 74) dX0_apply_74 rfl ?_
                    exact fr_vret (pc := 117) dX0_apply_117 rfl hq
                  · refine fr_iconst (pc := 35) dX0_changeSides_35 (by decide) ?_
                    refine fr_iastore (a := 5) (pc := 36) dX0_changeSides_36 rfl s0_5 hb1 nr_5 ?_
                    refine fr_vret (pc := 37) dX0_changeSides_37 rfl ?_
                    refine fr_goto (tg := 117) (pc := 74) dX0_apply_74 rfl ?_
                    exact fr_vret (pc := 117) dX0_apply_117 rfl hq
                · refine fr_aload_n (pc := 6) dX0_changeSides_6 rfl rfl ?_
                  refine fr_getr (a := 2) (pc := 7) dX0_changeSides_7 rfl pf_0_15 s0_2 rfl rf_2_1 ?_
                  refine fr_iload_n (pc := 10) dX0_changeSides_10 rfl rfl ?_
                  refine fr_iload_n (pc := 11) dX0_changeSides_11 rfl rfl ?_
                  refine fr_iastore (a := 4) (pc := 12) dX0_changeSides_12 rfl s0_4 hb1 nr_4 ?_
                  refine fr_goto (tg := 37) (pc := 13) dX0_changeSides_13 rfl ?_
                  refine fr_vret (pc := 37) dX0_changeSides_37 rfl ?_
                  refine fr_goto (tg := 117) (pc := 74) dX0_apply_74 rfl ?_
                  exact fr_vret (pc := 117) dX0_apply_117 rfl hq
              · refine fr_tableO (tg := 110) (pc := 6) dX0_apply_6 (by omega) rfl ?_
                refine fr_aload_n (pc := 110) dX0_apply_110 rfl rfl ?_
                refine fr_getr (a := 2) (pc := 111) dX0_apply_111 rfl pf_0_18 s0_2 rfl rf_2_2 ?_
                refine fr_iload_n (pc := 114) dX0_apply_114 rfl rfl ?_
                refine fr_iconst (pc := 115) dX0_apply_115 (by decide) ?_
                refine fr_iastore (a := 5) (pc := 116) dX0_apply_116 rfl s0_5 hb1 nr_5 ?_
                exact fr_vret (pc := 117) dX0_apply_117 rfl hq
theorem k0_makes_r {a1 a2 : Int} {M : pm_M} {K : Int → pm_M → Prop} (hq : ((0 ≤ a1 ∧ a1 < 60) ∧ (if gI M 3 a1 = 4 then (if a2 = 0 then K (w32 ((gI M 4 a1) + 1)) M else (if a2 = 1 then K (w32 ((gI M 4 a1) - 1)) M else K 0 M)) else (if gI M 3 a1 = 5 then k0_otherVariable (gI M 4 a1) a2 M (fun r7 M6 => K r7 M6) else (if gI M 3 a1 = 6 then K (-100) M else (if gI M 3 a1 = 7 then k0_otherSign (gI M 4 a1) a2 M (fun r11 M10 => K r11 M10) else K (-100) M)))))) : k0_makes a1 a2 M K := by
  intro sc d hd
  refine fr_aload_n (pc := 0) dX0_makes_0 rfl rfl ?_
  refine fr_getr (a := 2) (pc := 1) dX0_makes_1 rfl pf_0_9 s0_2 rfl rf_2_0 ?_
  refine fr_iload_n (pc := 4) dX0_makes_4 rfl rfl ?_
  obtain ⟨hb1, hq⟩ := hq
  refine fr_iaload (a := 3) (v := gI M 3 a1) (pc := 5) dX0_makes_5 rfl s0_3 hb1 rfl ?_
  refine pm_ite hq (fun hc2 hq => ?_) (fun hc2 hq => ?_)
  · refine fr_tabV (tg := 36) (off := 30) (v := 4) (pc := 6) dX0_makes_6 hc2 (by decide) rfl rfl ?_
    refine fr_iload_n (pc := 36) dX0_makes_36 rfl rfl ?_
    refine fr_ifc_ne (tg := 51) (pc := 37) dX0_makes_37 rfl hq (fun hc3 hq => ?_) (fun hc3 hq => ?_)
    · refine fr_aload_n (pc := 40) dX0_makes_40 rfl rfl ?_
      refine fr_getr (a := 2) (pc := 41) dX0_makes_41 rfl pf_0_15 s0_2 rfl rf_2_1 ?_
      refine fr_iload_n (pc := 44) dX0_makes_44 rfl rfl ?_
      refine fr_iaload (a := 4) (v := gI M 4 a1) (pc := 45) dX0_makes_45 rfl s0_4 hb1 rfl ?_
      refine fr_iconst (pc := 46) dX0_makes_46 (by decide) ?_
      refine fr_iadd (z := w32 ((gI M 4 a1) + 1)) (pc := 47) dX0_makes_47 rfl ?_
      refine fr_goto (tg := 68) (pc := 48) dX0_makes_48 rfl ?_
      exact fr_iret (pc := 68) dX0_makes_68 (Or.inl rfl) hq
    · refine fr_iload_n (pc := 51) dX0_makes_51 rfl rfl ?_
      refine fr_iconst (pc := 52) dX0_makes_52 (by decide) ?_
      refine fr_icm_ne (tg := 67) (pc := 53) dX0_makes_53 rfl hq (fun hc4 hq => ?_) (fun hc4 hq => ?_)
      · refine fr_aload_n (pc := 56) dX0_makes_56 rfl rfl ?_
        refine fr_getr (a := 2) (pc := 57) dX0_makes_57 rfl pf_0_15 s0_2 rfl rf_2_1 ?_
        refine fr_iload_n (pc := 60) dX0_makes_60 rfl rfl ?_
        refine fr_iaload (a := 4) (v := gI M 4 a1) (pc := 61) dX0_makes_61 rfl s0_4 hb1 rfl ?_
        refine fr_iconst (pc := 62) dX0_makes_62 (by decide) ?_
        refine fr_isub (z := w32 ((gI M 4 a1) - 1)) (pc := 63) dX0_makes_63 rfl ?_
        refine fr_goto (tg := 68) (pc := 64) dX0_makes_64 rfl ?_
        exact fr_iret (pc := 68) dX0_makes_68 (Or.inl rfl) hq
      · refine fr_iconst (pc := 67) dX0_makes_67 (by decide) ?_
        exact fr_iret (pc := 68) dX0_makes_68 (Or.inl rfl) hq
  · refine pm_ite hq (fun hc5 hq => ?_) (fun hc5 hq => ?_)
    · refine fr_tabV (tg := 69) (off := 63) (v := 5) (pc := 6) dX0_makes_6 hc5 (by decide) rfl rfl ?_
      refine fr_aload_n (pc := 69) dX0_makes_69 rfl rfl ?_
      refine fr_aload_n (pc := 70) dX0_makes_70 rfl rfl ?_
      refine fr_getr (a := 2) (pc := 71) dX0_makes_71 rfl pf_0_15 s0_2 rfl rf_2_1 ?_
      refine fr_iload_n (pc := 74) dX0_makes_74 rfl rfl ?_
      refine fr_iaload (a := 4) (v := gI M 4 a1) (pc := 75) dX0_makes_75 rfl s0_4 hb1 rfl ?_
      refine fr_iload_n (pc := 76) dX0_makes_76 rfl rfl ?_
      refine fr_inVI (a := 2) (as := [(0, gI M 4 a1), (0, a2)]) (rest := []) (ls' := [(2, 2), (0, gI M 4 a1), (0, a2), (9, 0), (9, 0)]) (c1 := 0) (c2 := 0) (pc := 77) dX0_makes_77 pl_0_117 rfl ⟨Nat.le_of_ble_eq_true rfl, Nat.le_of_ble_eq_true rfl⟩ rfl rfl rfl s0_2 (Nat.le_of_ble_eq_true rfl) (by omega) rfl rfl (pm_zc _) (hq sc _ (by omega)) (fun r7 M6 hq => ?_)
      exact fr_iret (pc := 80) dX0_makes_80 (Or.inl rfl) hq
    · refine pm_ite hq (fun hc8 hq => ?_) (fun hc8 hq => ?_)
      · refine fr_tabV (tg := 92) (off := 86) (v := 6) (pc := 6) dX0_makes_6 hc8 (by decide) rfl rfl ?_
        refine fr_bipush (pc := 92) dX0_makes_92 (by decide) ?_
        exact fr_iret (pc := 94) dX0_makes_94 (Or.inl rfl) hq
      · refine pm_ite hq (fun hc9 hq => ?_) (fun hc9 hq => ?_)
        · refine fr_tabV (tg := 81) (off := 75) (v := 7) (pc := 6) dX0_makes_6 hc9 (by decide) rfl rfl ?_
          refine fr_aload_n (pc := 81) dX0_makes_81 rfl rfl ?_
          refine fr_getr (a := 2) (pc := 82) dX0_makes_82 rfl pf_0_15 s0_2 rfl rf_2_1 ?_
          refine fr_iload_n (pc := 85) dX0_makes_85 rfl rfl ?_
          refine fr_iaload (a := 4) (v := gI M 4 a1) (pc := 86) dX0_makes_86 rfl s0_4 hb1 rfl ?_
          refine fr_iload_n (pc := 87) dX0_makes_87 rfl rfl ?_
          refine fr_inSI (as := [(0, gI M 4 a1), (0, a2)]) (rest := []) (ls' := [(0, gI M 4 a1), (0, a2), (9, 0), (9, 0), (9, 0)]) (c1 := 0) (c2 := 0) (pc := 88) dX0_makes_88 pl_0_121 rfl ⟨Nat.le_of_ble_eq_true rfl, Nat.le_of_ble_eq_true rfl⟩ rfl rfl  (by omega) rfl rfl (pm_zc _) (hq sc _ (by omega)) (fun r11 M10 hq => ?_)
          exact fr_iret (pc := 91) dX0_makes_91 (Or.inl rfl) hq
        · refine fr_tableO (tg := 92) (pc := 6) dX0_makes_6 (by omega) rfl ?_
          refine fr_bipush (pc := 92) dX0_makes_92 (by decide) ?_
          exact fr_iret (pc := 94) dX0_makes_94 (Or.inl rfl) hq
theorem k0_otherVariable_r {a1 a2 : Int} {M : pm_M} {K : Int → pm_M → Prop} (hq : k0_otherVariable_5 a1 a2 0 M K) : k0_otherVariable a1 a2 M K := by
  intro sc d hd
  refine fr_iload_n (pc := 0) dX0_otherVariable_0 rfl rfl ?_
  refine fr_istore_n (ls2 := [(2, 2), (0, a1), (0, a2), (0, a2), (9, 0)]) (pc := 1) dX0_otherVariable_1 rfl (Nat.le_of_ble_eq_true rfl) rfl ?_
  refine fr_iconst (pc := 2) dX0_otherVariable_2 (by decide) ?_
  refine fr_istore (ls2 := [(2, 2), (0, a1), (0, a2), (0, a2), (0, 0)]) (pc := 3) dX0_otherVariable_3 rfl (Nat.le_of_ble_eq_true rfl) rfl ?_
  exact hq sc d hd (0, a2) pm_t0
theorem k0_otherVariable_5_r {l1 l3 l4 : Int} {M : pm_M} {K : Int → pm_M → Prop} (hq : (if l4 < 9 then (if l4 = l1 then k0_otherVariable_5 l1 l3 (w32 (l4 + 1)) M K else (if pm_iand (pm_ishr (gI M 2 18) l4) 1 = 1 then (if l3 = 0 then K l4 M else k0_otherVariable_5 l1 (w32 (l3 + (-1))) (w32 (l4 + 1)) M K) else k0_otherVariable_5 l1 l3 (w32 (l4 + 1)) M K)) else K (-100) M)) : k0_otherVariable_5 l1 l3 l4 M K := by
  intro sc d hd z2 hz2
  refine fr_iload (pc := 5) dX0_otherVariable_5 rfl rfl ?_
  refine fr_bipush (pc := 7) dX0_otherVariable_7 (by decide) ?_
  refine fr_icm_ge (tg := 47) (pc := 9) dX0_otherVariable_9 rfl hq (fun hc1 hq => ?_) (fun hc1 hq => ?_)
  · refine fr_iload (pc := 12) dX0_otherVariable_12 rfl rfl ?_
    refine fr_iload_n (pc := 14) dX0_otherVariable_14 rfl rfl ?_
    refine fr_icm_eq (tg := 41) (pc := 15) dX0_otherVariable_15 rfl hq (fun hc2 hq => ?_) (fun hc2 hq => ?_)
    · refine fr_iinc (z := w32 (l4 + 1)) (ls2 := [(2, 2), (0, l1), z2, (0, l3), (0, w32 (l4 + 1))]) (pc := 41) dX0_otherVariable_41 (Nat.le_of_ble_eq_true rfl) rfl rfl rfl ?_
      refine fr_goto (tg := 5) (pc := 44) dX0_otherVariable_44 rfl ?_
      exact hq sc d hd z2 hz2
    · refine fr_aload_n (pc := 18) dX0_otherVariable_18 rfl rfl ?_
      refine fr_getf (a := 2) (i := 18) (v := gI M 2 18) (t := 0) (pc := 19) dX0_otherVariable_19 rfl pf_0_67 rfl s0_2 rfl rfl ?_
      refine fr_iload (pc := 22) dX0_otherVariable_22 rfl rfl ?_
      refine fr_ishr (z := pm_ishr (gI M 2 18) l4) (pc := 24) dX0_otherVariable_24 rfl ?_
      refine fr_iconst (pc := 25) dX0_otherVariable_25 (by decide) ?_
      refine fr_iand (z := pm_iand (pm_ishr (gI M 2 18) l4) 1) (pc := 26) dX0_otherVariable_26 rfl ?_
      refine fr_iconst (pc := 27) dX0_otherVariable_27 (by decide) ?_
      refine fr_icm_ne (tg := 41) (pc := 28) dX0_otherVariable_28 rfl hq (fun hc3 hq => ?_) (fun hc3 hq => ?_)
      · refine fr_iload_n (pc := 31) dX0_otherVariable_31 rfl rfl ?_
        refine fr_ifc_ne (tg := 38) (pc := 32) dX0_otherVariable_32 rfl hq (fun hc4 hq => ?_) (fun hc4 hq => ?_)
        · refine fr_iload (pc := 35) dX0_otherVariable_35 rfl rfl ?_
          exact fr_iret (pc := 37) dX0_otherVariable_37 (Or.inl rfl) hq
        · refine fr_iinc (z := w32 (l3 + (-1))) (ls2 := [(2, 2), (0, l1), z2, (0, w32 (l3 + (-1))), (0, l4)]) (pc := 38) dX0_otherVariable_38 (Nat.le_of_ble_eq_true rfl) rfl rfl (pm_st1z hz2 rfl rfl) ?_
          refine fr_iinc (z := w32 (l4 + 1)) (ls2 := [(2, 2), (0, l1), z2, (0, w32 (l3 + (-1))), (0, w32 (l4 + 1))]) (pc := 41) dX0_otherVariable_41 (Nat.le_of_ble_eq_true rfl) rfl rfl rfl ?_
          refine fr_goto (tg := 5) (pc := 44) dX0_otherVariable_44 rfl ?_
          exact hq sc d hd z2 hz2
      · refine fr_iinc (z := w32 (l4 + 1)) (ls2 := [(2, 2), (0, l1), z2, (0, l3), (0, w32 (l4 + 1))]) (pc := 41) dX0_otherVariable_41 (Nat.le_of_ble_eq_true rfl) rfl rfl rfl ?_
        refine fr_goto (tg := 5) (pc := 44) dX0_otherVariable_44 rfl ?_
        exact hq sc d hd z2 hz2
  · refine fr_bipush (pc := 47) dX0_otherVariable_47 (by decide) ?_
    exact fr_iret (pc := 49) dX0_otherVariable_49 (Or.inl rfl) hq
theorem k0_otherSign_r {a1 a2 : Int} {M : pm_M} {K : Int → pm_M → Prop} (hq : (if a1 < 5 then (if w32 (0 + a2) < a1 then (if w32 (0 + a2) ≤ 4 then K (w32 (0 + a2)) M else K (-100) M) else (if w32 ((w32 (0 + a2)) + 1) ≤ 4 then K (w32 ((w32 (0 + a2)) + 1)) M else K (-100) M)) else (if w32 (5 + a2) < a1 then (if w32 (5 + a2) ≤ 10 then K (w32 (5 + a2)) M else K (-100) M) else (if w32 ((w32 (5 + a2)) + 1) ≤ 10 then K (w32 ((w32 (5 + a2)) + 1)) M else K (-100) M)))) : k0_otherSign a1 a2 M K := by
  intro sc d hd
  refine fr_iload_n (pc := 0) dX0_otherSign_0 rfl rfl ?_
  refine fr_iconst (pc := 1) dX0_otherSign_1 (by decide) ?_
  refine fr_icm_lt (tg := 9) (pc := 2) dX0_otherSign_2 rfl hq (fun hc1 hq => ?_) (fun hc1 hq => ?_)
  · refine fr_iconst (pc := 9) dX0_otherSign_9 (by decide) ?_
    refine fr_istore_n (ls2 := [(0, a1), (0, a2), (0, 0), (9, 0), (9, 0)]) (pc := 10) dX0_otherSign_10 rfl (Nat.le_of_ble_eq_true rfl) rfl ?_
    refine fr_iload_n (pc := 11) dX0_otherSign_11 rfl rfl ?_
    refine fr_iconst (pc := 12) dX0_otherSign_12 (by decide) ?_
    refine fr_icmT (tg := 21) (pc := 13) dX0_otherSign_13 (decide_eq_true hc1) rfl ?_
    refine fr_iconst (pc := 21) dX0_otherSign_21 (by decide) ?_
    refine fr_istore_n (ls2 := [(0, a1), (0, a2), (0, 0), (0, 4), (9, 0)]) (pc := 22) dX0_otherSign_22 rfl (Nat.le_of_ble_eq_true rfl) rfl ?_
    refine fr_iload_n (pc := 23) dX0_otherSign_23 rfl rfl ?_
    refine fr_iload_n (pc := 24) dX0_otherSign_24 rfl rfl ?_
    refine fr_iadd (z := w32 (0 + a2)) (pc := 25) dX0_otherSign_25 rfl ?_
    refine fr_iload_n (pc := 26) dX0_otherSign_26 rfl rfl ?_
    refine fr_icm_ge (tg := 36) (pc := 27) dX0_otherSign_27 rfl hq (fun hc2 hq => ?_) (fun hc2 hq => ?_)
    · refine fr_iload_n (pc := 30) dX0_otherSign_30 rfl rfl ?_
      refine fr_iload_n (pc := 31) dX0_otherSign_31 rfl rfl ?_
      refine fr_iadd (z := w32 (0 + a2)) (pc := 32) dX0_otherSign_32 rfl ?_
      refine fr_goto (tg := 41) (pc := 33) dX0_otherSign_33 rfl ?_
      refine fr_istore (ls2 := [(0, a1), (0, a2), (0, 0), (0, 4), (0, w32 (0 + a2))]) (pc := 41) dX0_otherSign_41 rfl (Nat.le_of_ble_eq_true rfl) rfl ?_
      refine fr_iload (pc := 43) dX0_otherSign_43 rfl rfl ?_
      refine fr_iload_n (pc := 45) dX0_otherSign_45 rfl rfl ?_
      refine fr_icm_gt (tg := 54) (pc := 46) dX0_otherSign_46 rfl hq (fun hc3 hq => ?_) (fun hc3 hq => ?_)
      · refine fr_iload (pc := 49) dX0_otherSign_49 rfl rfl ?_
        refine fr_goto (tg := 56) (pc := 51) dX0_otherSign_51 rfl ?_
        exact fr_iret (pc := 56) dX0_otherSign_56 (Or.inl rfl) hq
      · refine fr_bipush (pc := 54) dX0_otherSign_54 (by decide) ?_
        exact fr_iret (pc := 56) dX0_otherSign_56 (Or.inl rfl) hq
    · refine fr_iload_n (pc := 36) dX0_otherSign_36 rfl rfl ?_
      refine fr_iload_n (pc := 37) dX0_otherSign_37 rfl rfl ?_
      refine fr_iadd (z := w32 (0 + a2)) (pc := 38) dX0_otherSign_38 rfl ?_
      refine fr_iconst (pc := 39) dX0_otherSign_39 (by decide) ?_
      refine fr_iadd (z := w32 ((w32 (0 + a2)) + 1)) (pc := 40) dX0_otherSign_40 rfl ?_
      refine fr_istore (ls2 := [(0, a1), (0, a2), (0, 0), (0, 4), (0, w32 ((w32 (0 + a2)) + 1))]) (pc := 41) dX0_otherSign_41 rfl (Nat.le_of_ble_eq_true rfl) rfl ?_
      refine fr_iload (pc := 43) dX0_otherSign_43 rfl rfl ?_
      refine fr_iload_n (pc := 45) dX0_otherSign_45 rfl rfl ?_
      refine fr_icm_gt (tg := 54) (pc := 46) dX0_otherSign_46 rfl hq (fun hc4 hq => ?_) (fun hc4 hq => ?_)
      · refine fr_iload (pc := 49) dX0_otherSign_49 rfl rfl ?_
        refine fr_goto (tg := 56) (pc := 51) dX0_otherSign_51 rfl ?_
        exact fr_iret (pc := 56) dX0_otherSign_56 (Or.inl rfl) hq
      · refine fr_bipush (pc := 54) dX0_otherSign_54 (by decide) ?_
        exact fr_iret (pc := 56) dX0_otherSign_56 (Or.inl rfl) hq
  · refine fr_iconst (pc := 5) dX0_otherSign_5 (by decide) ?_
    refine fr_goto (tg := 10) (pc := 6) dX0_otherSign_6 rfl ?_
    refine fr_istore_n (ls2 := [(0, a1), (0, a2), (0, 5), (9, 0), (9, 0)]) (pc := 10) dX0_otherSign_10 rfl (Nat.le_of_ble_eq_true rfl) rfl ?_
    refine fr_iload_n (pc := 11) dX0_otherSign_11 rfl rfl ?_
    refine fr_iconst (pc := 12) dX0_otherSign_12 (by decide) ?_
    refine fr_icmF (tg := 21) (pc := 13) dX0_otherSign_13 (decide_eq_false hc1) rfl ?_
    refine fr_bipush (pc := 16) dX0_otherSign_16 (by decide) ?_
    refine fr_goto (tg := 22) (pc := 18) dX0_otherSign_18 rfl ?_
    refine fr_istore_n (ls2 := [(0, a1), (0, a2), (0, 5), (0, 10), (9, 0)]) (pc := 22) dX0_otherSign_22 rfl (Nat.le_of_ble_eq_true rfl) rfl ?_
    refine fr_iload_n (pc := 23) dX0_otherSign_23 rfl rfl ?_
    refine fr_iload_n (pc := 24) dX0_otherSign_24 rfl rfl ?_
    refine fr_iadd (z := w32 (5 + a2)) (pc := 25) dX0_otherSign_25 rfl ?_
    refine fr_iload_n (pc := 26) dX0_otherSign_26 rfl rfl ?_
    refine fr_icm_ge (tg := 36) (pc := 27) dX0_otherSign_27 rfl hq (fun hc5 hq => ?_) (fun hc5 hq => ?_)
    · refine fr_iload_n (pc := 30) dX0_otherSign_30 rfl rfl ?_
      refine fr_iload_n (pc := 31) dX0_otherSign_31 rfl rfl ?_
      refine fr_iadd (z := w32 (5 + a2)) (pc := 32) dX0_otherSign_32 rfl ?_
      refine fr_goto (tg := 41) (pc := 33) dX0_otherSign_33 rfl ?_
      refine fr_istore (ls2 := [(0, a1), (0, a2), (0, 5), (0, 10), (0, w32 (5 + a2))]) (pc := 41) dX0_otherSign_41 rfl (Nat.le_of_ble_eq_true rfl) rfl ?_
      refine fr_iload (pc := 43) dX0_otherSign_43 rfl rfl ?_
      refine fr_iload_n (pc := 45) dX0_otherSign_45 rfl rfl ?_
      refine fr_icm_gt (tg := 54) (pc := 46) dX0_otherSign_46 rfl hq (fun hc6 hq => ?_) (fun hc6 hq => ?_)
      · refine fr_iload (pc := 49) dX0_otherSign_49 rfl rfl ?_
        refine fr_goto (tg := 56) (pc := 51) dX0_otherSign_51 rfl ?_
        exact fr_iret (pc := 56) dX0_otherSign_56 (Or.inl rfl) hq
      · refine fr_bipush (pc := 54) dX0_otherSign_54 (by decide) ?_
        exact fr_iret (pc := 56) dX0_otherSign_56 (Or.inl rfl) hq
    · refine fr_iload_n (pc := 36) dX0_otherSign_36 rfl rfl ?_
      refine fr_iload_n (pc := 37) dX0_otherSign_37 rfl rfl ?_
      refine fr_iadd (z := w32 (5 + a2)) (pc := 38) dX0_otherSign_38 rfl ?_
      refine fr_iconst (pc := 39) dX0_otherSign_39 (by decide) ?_
      refine fr_iadd (z := w32 ((w32 (5 + a2)) + 1)) (pc := 40) dX0_otherSign_40 rfl ?_
      refine fr_istore (ls2 := [(0, a1), (0, a2), (0, 5), (0, 10), (0, w32 ((w32 (5 + a2)) + 1))]) (pc := 41) dX0_otherSign_41 rfl (Nat.le_of_ble_eq_true rfl) rfl ?_
      refine fr_iload (pc := 43) dX0_otherSign_43 rfl rfl ?_
      refine fr_iload_n (pc := 45) dX0_otherSign_45 rfl rfl ?_
      refine fr_icm_gt (tg := 54) (pc := 46) dX0_otherSign_46 rfl hq (fun hc7 hq => ?_) (fun hc7 hq => ?_)
      · refine fr_iload (pc := 49) dX0_otherSign_49 rfl rfl ?_
        refine fr_goto (tg := 56) (pc := 51) dX0_otherSign_51 rfl ?_
        exact fr_iret (pc := 56) dX0_otherSign_56 (Or.inl rfl) hq
      · refine fr_bipush (pc := 54) dX0_otherSign_54 (by decide) ?_
        exact fr_iret (pc := 56) dX0_otherSign_56 (Or.inl rfl) hq
theorem k1_countPassing_r {a1 : Int} {M : pm_M} {K : Int → pm_M → Prop} (hq : k1_countPassing_4 a1 0 0 M K) : k1_countPassing a1 M K := by
  intro sc d hd
  refine fr_iconst (pc := 0) dX1_countPassing_0 (by decide) ?_
  refine fr_istore_n (ls2 := [(2, 73), (0, a1), (0, 0), (9, 0)]) (pc := 1) dX1_countPassing_1 rfl (Nat.le_of_ble_eq_true rfl) rfl ?_
  refine fr_iconst (pc := 2) dX1_countPassing_2 (by decide) ?_
  refine fr_istore_n (ls2 := [(2, 73), (0, a1), (0, 0), (0, 0)]) (pc := 3) dX1_countPassing_3 rfl (Nat.le_of_ble_eq_true rfl) rfl ?_
  exact hq sc d hd
theorem k1_countPassing_4_r {l1 l2 l3 : Int} {M : pm_M} {K : Int → pm_M → Prop} (hq : (if l3 < gI M 18 1 then ((0 ≤ l3 ∧ l3 < 16) ∧ (if gI M (20 + l3.toNat) 4 = 1 then (if 1 = l1 then k1_passes l3 M (fun r6 M5 => (if r6 = 0 then k1_countPassing_4 l1 l2 (w32 (l3 + 1)) M5 K else k1_countPassing_4 l1 (w32 (l2 + 1)) (w32 (l3 + 1)) M5 K)) else k1_countPassing_4 l1 l2 (w32 (l3 + 1)) M K) else (if 0 = l1 then k1_passes l3 M (fun r10 M9 => (if r10 = 0 then k1_countPassing_4 l1 l2 (w32 (l3 + 1)) M9 K else k1_countPassing_4 l1 (w32 (l2 + 1)) (w32 (l3 + 1)) M9 K)) else k1_countPassing_4 l1 l2 (w32 (l3 + 1)) M K))) else K l2 M)) : k1_countPassing_4 l1 l2 l3 M K := by
  intro sc d hd
  refine fr_iload_n (pc := 4) dX1_countPassing_4 rfl rfl ?_
  refine fr_aload_n (pc := 5) dX1_countPassing_5 rfl rfl ?_
  refine fr_getr (a := 73) (pc := 6) dX1_countPassing_6 rfl pf_1_32 s0_73 rfl rf_73_1 ?_
  refine fr_getf (a := 18) (i := 1) (v := gI M 18 1) (t := 0) (pc := 9) dX1_countPassing_9 rfl pf_1_48 rfl s0_18 rfl rfl ?_
  refine fr_icm_ge (tg := 44) (pc := 12) dX1_countPassing_12 rfl hq (fun hc1 hq => ?_) (fun hc1 hq => ?_)
  · refine fr_aload_n (pc := 15) dX1_countPassing_15 rfl rfl ?_
    refine fr_getr (a := 73) (pc := 16) dX1_countPassing_16 rfl pf_1_32 s0_73 rfl rf_73_1 ?_
    refine fr_iload_n (pc := 19) dX1_countPassing_19 rfl rfl ?_
    refine fr_inVI (a := 18) (as := [(0, l3)]) (rest := []) (ls' := [(2, 18), (0, l3)]) (c1 := 0) (c2 := 0) (pc := 20) dX1_countPassing_20 pl_1_51 rfl ⟨Nat.le_of_ble_eq_true rfl, Nat.le_of_ble_eq_true rfl⟩ rfl rfl rfl s0_18 (Nat.le_of_ble_eq_true rfl) (by omega) rfl rfl (pm_zc _) ?_ (fun y M' h => h)
    refine fr_aload_n (pc := 0) dX8_isHeld_0 rfl rfl ?_
    refine fr_getr (a := 18) (pc := 1) dX8_isHeld_1 rfl pf_8_13 s0_18 rfl rf_18_0 ?_
    refine fr_iload_n (pc := 4) dX8_isHeld_4 rfl rfl ?_
    obtain ⟨hb2, hq⟩ := hq
    refine fr_aaload (a := 19) (pc := 5) dX8_isHeld_5 rfl s0_19 hb2 rws_19 ?_
    refine fr_iconst (pc := 6) dX8_isHeld_6 (by decide) ?_
    refine fr_iaload (a := (19 + 1 + l3.toNat)) (v := gI M (20 + l3.toNat) 4) (pc := 7) dX8_isHeld_7 rfl (pm_rowS rwS_19 hb2) (by decide) rfl ?_
    refine fr_iconst (pc := 8) dX8_isHeld_8 (by decide) ?_
    refine fr_icm_ne (tg := 16) (pc := 9) dX8_isHeld_9 rfl hq (fun hc3 hq => ?_) (fun hc3 hq => ?_)
    · refine fr_iconst (pc := 12) dX8_isHeld_12 (by decide) ?_
      refine fr_goto (tg := 17) (pc := 13) dX8_isHeld_13 rfl ?_
      refine fr_iret (pc := 17) dX8_isHeld_17 (Or.inr (Or.inl ⟨rfl, Or.inr rfl⟩)) ?_
      refine fr_iload_n (pc := 23) dX1_countPassing_23 rfl rfl ?_
      refine fr_icm_ne (tg := 38) (pc := 24) dX1_countPassing_24 rfl hq (fun hc4 hq => ?_) (fun hc4 hq => ?_)
      · refine fr_aload_n (pc := 27) dX1_countPassing_27 rfl rfl ?_
        refine fr_iload_n (pc := 28) dX1_countPassing_28 rfl rfl ?_
        refine fr_inVI (a := 73) (as := [(0, l3)]) (rest := []) (ls' := [(2, 73), (0, l3), (9, 0), (9, 0)]) (c1 := 0) (c2 := 0) (pc := 29) dX1_countPassing_29 pl_1_45 rfl ⟨Nat.le_of_ble_eq_true rfl, Nat.le_of_ble_eq_true rfl⟩ rfl rfl rfl s0_73 (Nat.le_of_ble_eq_true rfl) (by omega) rfl rfl (pm_zc _) (hq sc _ (by omega)) (fun r6 M5 hq => ?_)
        refine fr_ifc_eq (tg := 38) (pc := 32) dX1_countPassing_32 rfl hq (fun hc7 hq => ?_) (fun hc7 hq => ?_)
        · refine fr_iinc (z := w32 (l3 + 1)) (ls2 := [(2, 73), (0, l1), (0, l2), (0, w32 (l3 + 1))]) (pc := 38) dX1_countPassing_38 (Nat.le_of_ble_eq_true rfl) rfl rfl rfl ?_
          refine fr_goto (tg := 4) (pc := 41) dX1_countPassing_41 rfl ?_
          exact hq sc d hd
        · refine fr_iinc (z := w32 (l2 + 1)) (ls2 := [(2, 73), (0, l1), (0, w32 (l2 + 1)), (0, l3)]) (pc := 35) dX1_countPassing_35 (Nat.le_of_ble_eq_true rfl) rfl rfl rfl ?_
          refine fr_iinc (z := w32 (l3 + 1)) (ls2 := [(2, 73), (0, l1), (0, w32 (l2 + 1)), (0, w32 (l3 + 1))]) (pc := 38) dX1_countPassing_38 (Nat.le_of_ble_eq_true rfl) rfl rfl rfl ?_
          refine fr_goto (tg := 4) (pc := 41) dX1_countPassing_41 rfl ?_
          exact hq sc d hd
      · refine fr_iinc (z := w32 (l3 + 1)) (ls2 := [(2, 73), (0, l1), (0, l2), (0, w32 (l3 + 1))]) (pc := 38) dX1_countPassing_38 (Nat.le_of_ble_eq_true rfl) rfl rfl rfl ?_
        refine fr_goto (tg := 4) (pc := 41) dX1_countPassing_41 rfl ?_
        exact hq sc d hd
    · refine fr_iconst (pc := 16) dX8_isHeld_16 (by decide) ?_
      refine fr_iret (pc := 17) dX8_isHeld_17 (Or.inr (Or.inl ⟨rfl, Or.inl rfl⟩)) ?_
      refine fr_iload_n (pc := 23) dX1_countPassing_23 rfl rfl ?_
      refine fr_icm_ne (tg := 38) (pc := 24) dX1_countPassing_24 rfl hq (fun hc8 hq => ?_) (fun hc8 hq => ?_)
      · refine fr_aload_n (pc := 27) dX1_countPassing_27 rfl rfl ?_
        refine fr_iload_n (pc := 28) dX1_countPassing_28 rfl rfl ?_
        refine fr_inVI (a := 73) (as := [(0, l3)]) (rest := []) (ls' := [(2, 73), (0, l3), (9, 0), (9, 0)]) (c1 := 0) (c2 := 0) (pc := 29) dX1_countPassing_29 pl_1_45 rfl ⟨Nat.le_of_ble_eq_true rfl, Nat.le_of_ble_eq_true rfl⟩ rfl rfl rfl s0_73 (Nat.le_of_ble_eq_true rfl) (by omega) rfl rfl (pm_zc _) (hq sc _ (by omega)) (fun r10 M9 hq => ?_)
        refine fr_ifc_eq (tg := 38) (pc := 32) dX1_countPassing_32 rfl hq (fun hc11 hq => ?_) (fun hc11 hq => ?_)
        · refine fr_iinc (z := w32 (l3 + 1)) (ls2 := [(2, 73), (0, l1), (0, l2), (0, w32 (l3 + 1))]) (pc := 38) dX1_countPassing_38 (Nat.le_of_ble_eq_true rfl) rfl rfl rfl ?_
          refine fr_goto (tg := 4) (pc := 41) dX1_countPassing_41 rfl ?_
          exact hq sc d hd
        · refine fr_iinc (z := w32 (l2 + 1)) (ls2 := [(2, 73), (0, l1), (0, w32 (l2 + 1)), (0, l3)]) (pc := 35) dX1_countPassing_35 (Nat.le_of_ble_eq_true rfl) rfl rfl rfl ?_
          refine fr_iinc (z := w32 (l3 + 1)) (ls2 := [(2, 73), (0, l1), (0, w32 (l2 + 1)), (0, w32 (l3 + 1))]) (pc := 38) dX1_countPassing_38 (Nat.le_of_ble_eq_true rfl) rfl rfl rfl ?_
          refine fr_goto (tg := 4) (pc := 41) dX1_countPassing_41 rfl ?_
          exact hq sc d hd
      · refine fr_iinc (z := w32 (l3 + 1)) (ls2 := [(2, 73), (0, l1), (0, l2), (0, w32 (l3 + 1))]) (pc := 38) dX1_countPassing_38 (Nat.le_of_ble_eq_true rfl) rfl rfl rfl ?_
        refine fr_goto (tg := 4) (pc := 41) dX1_countPassing_41 rfl ?_
        exact hq sc d hd
  · refine fr_iload_n (pc := 44) dX1_countPassing_44 rfl rfl ?_
    exact fr_iret (pc := 45) dX1_countPassing_45 (Or.inl rfl) hq
theorem k11_mend_r {a1 a2 : Int} {M : pm_M} {K : Int → pm_M → Prop} (hq : k11_learnMends M (fun M1 => (if a1 = (-1) then K (gI M1 132 10) M1 else (if a1 < 0 then K (-1) M1 else (if a1 < gI M1 132 10 then (if a2 = 0 then ((0 ≤ a1 ∧ a1 < 480) ∧ K (gI M1 133 a1) M1) else (if a2 = 1 then ((0 ≤ a1 ∧ a1 < 480) ∧ K (gI M1 134 a1) M1) else (if a2 = 2 then ((0 ≤ a1 ∧ a1 < 480) ∧ K (gI M1 135 a1) M1) else (if a2 = 3 then ((0 ≤ a1 ∧ a1 < 480) ∧ (if gI M1 135 a1 < gI M1 18 2 then K 1 M1 else K 0 M1)) else (if a2 = 4 then ((0 ≤ a1 ∧ a1 < 480) ∧ K (gI M1 136 a1) M1) else K (-1) M1))))) else K (-1) M1))))) : k11_mend a1 a2 M K := by
  intro sc d hd
  refine fr_aload_n (pc := 0) dX11_mend_0 rfl rfl ?_
  refine fr_inVV (a := 0) (as := []) (rest := []) (ls' := [(2, 0)]) (c1 := 0) (c2 := 0) (pc := 1) dX11_mend_1 pl_11_240 rfl ⟨Nat.le_of_ble_eq_true rfl, Nat.le_of_ble_eq_true rfl⟩ rfl rfl rfl s0_0 (Nat.le_of_ble_eq_true rfl) (by omega) rfl rfl (pm_zc _) (hq sc _ (by omega)) (fun M1 hq => ?_)
  refine fr_iload_n (pc := 4) dX11_mend_4 rfl rfl ?_
  refine fr_iconst (pc := 5) dX11_mend_5 (by decide) ?_
  refine fr_icm_ne (tg := 17) (pc := 6) dX11_mend_6 rfl hq (fun hc3 hq => ?_) (fun hc3 hq => ?_)
  · refine fr_aload_n (pc := 9) dX11_mend_9 rfl rfl ?_
    refine fr_getr (a := 0) (pc := 10) dX11_mend_10 rfl pf_11_86 s0_0 rfl rf_0_11 ?_
    refine fr_getf (a := 132) (i := 10) (v := gI M1 132 10) (t := 0) (pc := 13) dX11_mend_13 rfl pf_11_243 rfl s0_132 rfl rfl ?_
    exact fr_iret (pc := 16) dX11_mend_16 (Or.inl rfl) hq
  · refine fr_iload_n (pc := 17) dX11_mend_17 rfl rfl ?_
    refine fr_ifc_lt (tg := 32) (pc := 18) dX11_mend_18 rfl hq (fun hc4 hq => ?_) (fun hc4 hq => ?_)
    · refine fr_iconst (pc := 32) dX11_mend_32 (by decide) ?_
      exact fr_iret (pc := 33) dX11_mend_33 (Or.inl rfl) hq
    · refine fr_iload_n (pc := 21) dX11_mend_21 rfl rfl ?_
      refine fr_aload_n (pc := 22) dX11_mend_22 rfl rfl ?_
      refine fr_getr (a := 0) (pc := 23) dX11_mend_23 rfl pf_11_86 s0_0 rfl rf_0_11 ?_
      refine fr_getf (a := 132) (i := 10) (v := gI M1 132 10) (t := 0) (pc := 26) dX11_mend_26 rfl pf_11_243 rfl s0_132 rfl rfl ?_
      refine fr_icm_lt (tg := 34) (pc := 29) dX11_mend_29 rfl hq (fun hc5 hq => ?_) (fun hc5 hq => ?_)
      · refine fr_iload_n (pc := 34) dX11_mend_34 rfl rfl ?_
        refine pm_ite hq (fun hc6 hq => ?_) (fun hc6 hq => ?_)
        · refine fr_tabV (tg := 68) (off := 33) (v := 0) (pc := 35) dX11_mend_35 hc6 (by decide) rfl rfl ?_
          refine fr_aload_n (pc := 68) dX11_mend_68 rfl rfl ?_
          refine fr_getr (a := 0) (pc := 69) dX11_mend_69 rfl pf_11_86 s0_0 rfl rf_0_11 ?_
          refine fr_getr (a := 132) (pc := 72) dX11_mend_72 rfl pf_11_246 s0_132 rfl rf_132_5 ?_
          refine fr_iload_n (pc := 75) dX11_mend_75 rfl rfl ?_
          obtain ⟨hb7, hq⟩ := hq
          refine fr_iaload (a := 133) (v := gI M1 133 a1) (pc := 76) dX11_mend_76 rfl s0_133 hb7 rfl ?_
          exact fr_iret (pc := 77) dX11_mend_77 (Or.inl rfl) hq
        · refine pm_ite hq (fun hc8 hq => ?_) (fun hc8 hq => ?_)
          · refine fr_tabV (tg := 78) (off := 43) (v := 1) (pc := 35) dX11_mend_35 hc8 (by decide) rfl rfl ?_
            refine fr_aload_n (pc := 78) dX11_mend_78 rfl rfl ?_
            refine fr_getr (a := 0) (pc := 79) dX11_mend_79 rfl pf_11_86 s0_0 rfl rf_0_11 ?_
            refine fr_getr (a := 132) (pc := 82) dX11_mend_82 rfl pf_11_249 s0_132 rfl rf_132_6 ?_
            refine fr_iload_n (pc := 85) dX11_mend_85 rfl rfl ?_
            obtain ⟨hb9, hq⟩ := hq
            refine fr_iaload (a := 134) (v := gI M1 134 a1) (pc := 86) dX11_mend_86 rfl s0_134 hb9 rfl ?_
            exact fr_iret (pc := 87) dX11_mend_87 (Or.inl rfl) hq
          · refine pm_ite hq (fun hc10 hq => ?_) (fun hc10 hq => ?_)
            · refine fr_tabV (tg := 88) (off := 53) (v := 2) (pc := 35) dX11_mend_35 hc10 (by decide) rfl rfl ?_
              refine fr_aload_n (pc := 88) dX11_mend_88 rfl rfl ?_
              refine fr_getr (a := 0) (pc := 89) dX11_mend_89 rfl pf_11_86 s0_0 rfl rf_0_11 ?_
              refine fr_getr (a := 132) (pc := 92) dX11_mend_92 rfl pf_11_252 s0_132 rfl rf_132_7 ?_
              refine fr_iload_n (pc := 95) dX11_mend_95 rfl rfl ?_
              obtain ⟨hb11, hq⟩ := hq
              refine fr_iaload (a := 135) (v := gI M1 135 a1) (pc := 96) dX11_mend_96 rfl s0_135 hb11 rfl ?_
              exact fr_iret (pc := 97) dX11_mend_97 (Or.inl rfl) hq
            · refine pm_ite hq (fun hc12 hq => ?_) (fun hc12 hq => ?_)
              · refine fr_tabV (tg := 98) (off := 63) (v := 3) (pc := 35) dX11_mend_35 hc12 (by decide) rfl rfl ?_
                refine fr_aload_n (pc := 98) dX11_mend_98 rfl rfl ?_
                refine fr_getr (a := 0) (pc := 99) dX11_mend_99 rfl pf_11_86 s0_0 rfl rf_0_11 ?_
                refine fr_getr (a := 132) (pc := 102) dX11_mend_102 rfl pf_11_252 s0_132 rfl rf_132_7 ?_
                refine fr_iload_n (pc := 105) dX11_mend_105 rfl rfl ?_
                obtain ⟨hb13, hq⟩ := hq
                refine fr_iaload (a := 135) (v := gI M1 135 a1) (pc := 106) dX11_mend_106 rfl s0_135 hb13 rfl ?_
                refine fr_aload_n (pc := 107) dX11_mend_107 rfl rfl ?_
                refine fr_getr (a := 0) (pc := 108) dX11_mend_108 rfl pf_11_23 s0_0 rfl rf_0_5 ?_
                refine fr_getf (a := 18) (i := 2) (v := gI M1 18 2) (t := 0) (pc := 111) dX11_mend_111 rfl pf_11_255 rfl s0_18 rfl rfl ?_
                refine fr_icm_ge (tg := 121) (pc := 114) dX11_mend_114 rfl hq (fun hc14 hq => ?_) (fun hc14 hq => ?_)
                · refine fr_iconst (pc := 117) dX11_mend_117 (by decide) ?_
                  refine fr_goto (tg := 122) (pc := 118) dX11_mend_118 rfl ?_
                  exact fr_iret (pc := 122) dX11_mend_122 (Or.inl rfl) hq
                · refine fr_iconst (pc := 121) dX11_mend_121 (by decide) ?_
                  exact fr_iret (pc := 122) dX11_mend_122 (Or.inl rfl) hq
              · refine pm_ite hq (fun hc15 hq => ?_) (fun hc15 hq => ?_)
                · refine fr_tabV (tg := 123) (off := 88) (v := 4) (pc := 35) dX11_mend_35 hc15 (by decide) rfl rfl ?_
                  refine fr_aload_n (pc := 123) dX11_mend_123 rfl rfl ?_
                  refine fr_getr (a := 0) (pc := 124) dX11_mend_124 rfl pf_11_86 s0_0 rfl rf_0_11 ?_
                  refine fr_getr (a := 132) (pc := 127) dX11_mend_127 rfl pf_11_258 s0_132 rfl rf_132_8 ?_
                  refine fr_iload_n (pc := 130) dX11_mend_130 rfl rfl ?_
                  obtain ⟨hb16, hq⟩ := hq
                  refine fr_iaload (a := 136) (v := gI M1 136 a1) (pc := 131) dX11_mend_131 rfl s0_136 hb16 rfl ?_
                  exact fr_iret (pc := 132) dX11_mend_132 (Or.inl rfl) hq
                · refine fr_tableO (tg := 133) (pc := 35) dX11_mend_35 (by omega) rfl ?_
                  refine fr_iconst (pc := 133) dX11_mend_133 (by decide) ?_
                  exact fr_iret (pc := 134) dX11_mend_134 (Or.inl rfl) hq
      · refine fr_iconst (pc := 32) dX11_mend_32 (by decide) ?_
        exact fr_iret (pc := 33) dX11_mend_33 (Or.inl rfl) hq
theorem k11_learnMends_r {M : pm_M} {K : pm_M → Prop} (hq : k11_learnRuns M (fun M1 => k2_find M1 (fun M3 => K M3))) : k11_learnMends M K := by
  intro sc d hd
  refine fr_aload_n (pc := 0) dX11_learnMends_0 rfl rfl ?_
  refine fr_inVV (a := 0) (as := []) (rest := []) (ls' := [(2, 0)]) (c1 := 0) (c2 := 0) (pc := 1) dX11_learnMends_1 pl_11_195 rfl ⟨Nat.le_of_ble_eq_true rfl, Nat.le_of_ble_eq_true rfl⟩ rfl rfl rfl s0_0 (Nat.le_of_ble_eq_true rfl) (by omega) rfl rfl (pm_zc _) (hq sc _ (by omega)) (fun M1 hq => ?_)
  refine fr_aload_n (pc := 4) dX11_learnMends_4 rfl rfl ?_
  refine fr_getr (a := 0) (pc := 5) dX11_learnMends_5 rfl pf_11_86 s0_0 rfl rf_0_11 ?_
  refine fr_inVV (a := 132) (as := []) (rest := []) (ls' := [(2, 132), (9, 0), (9, 0)]) (c1 := 0) (c2 := 0) (pc := 8) dX11_learnMends_8 pl_11_335 rfl ⟨Nat.le_of_ble_eq_true rfl, Nat.le_of_ble_eq_true rfl⟩ rfl rfl rfl s0_132 (Nat.le_of_ble_eq_true rfl) (by omega) rfl rfl (pm_zc _) (hq sc _ (by omega)) (fun M3 hq => ?_)
  exact fr_vret (pc := 11) dX11_learnMends_11 rfl hq
theorem k2_find_r {M : pm_M} {K : pm_M → Prop} (hq : (if gI M 132 11 = 0 then (if gI M 77 11 = 0 then K (upI (upI M 132 11 1) 132 10 0) else k2_find_31 0 (upI (upI M 132 11 1) 132 10 0) K) else K M)) : k2_find M K := by
  intro sc d hd
  refine fr_aload_n (pc := 0) dX2_find_0 rfl rfl ?_
  refine fr_getf (a := 132) (i := 11) (v := gI M 132 11) (t := 0) (pc := 1) dX2_find_1 rfl pf_2_48 rfl s0_132 rfl rfl ?_
  refine fr_ifc_eq (tg := 8) (pc := 4) dX2_find_4 rfl hq (fun hc1 hq => ?_) (fun hc1 hq => ?_)
  · refine fr_aload_n (pc := 8) dX2_find_8 rfl rfl ?_
    refine fr_iconst (pc := 9) dX2_find_9 (by decide) ?_
    refine fr_put (a := 132) (i := 11) (pc := 10) dX2_find_10 rfl pf_2_48 rfl s0_132 rfl rfl nf_132_11 rfl ?_
    refine fr_aload_n (pc := 13) dX2_find_13 rfl rfl ?_
    refine fr_iconst (pc := 14) dX2_find_14 (by decide) ?_
    refine fr_put (a := 132) (i := 10) (pc := 15) dX2_find_15 rfl pf_2_52 rfl s0_132 rfl rfl nf_132_10 rfl ?_
    refine fr_aload_n (pc := 18) dX2_find_18 rfl rfl ?_
    refine fr_getr (a := 132) (pc := 19) dX2_find_19 rfl pf_2_40 s0_132 rfl rf_132_3 ?_
    refine fr_getf (a := 77) (i := 11) (v := gI M 77 11) (t := 0) (pc := 22) dX2_find_22 rfl pf_2_56 rfl s0_77 rfl ((gI_ne _ _ _ _ (by decide)).trans (gI_ne _ _ _ _ (by decide))) ?_
    refine fr_ifc_ne (tg := 29) (pc := 25) dX2_find_25 rfl hq (fun hc2 hq => ?_) (fun hc2 hq => ?_)
    · exact fr_vret (pc := 28) dX2_find_28 rfl hq
    · refine fr_iconst (pc := 29) dX2_find_29 (by decide) ?_
      refine fr_istore_n (ls2 := [(2, 132), (0, 0), (9, 0)]) (pc := 30) dX2_find_30 rfl (Nat.le_of_ble_eq_true rfl) rfl ?_
      exact hq sc d hd (9, 0) pm_t9
  · exact fr_vret (pc := 7) dX2_find_7 rfl hq
theorem k2_find_31_r {l1 : Int} {M : pm_M} {K : pm_M → Prop} (hq : (if l1 < gI M 2 16 then ((0 ≤ l1 ∧ l1 < 20) ∧ (if pm_lcmp (pm_land (pm_lshr (gI M 77 13) (gI M 130 l1)) 1) 1 = 0 then k2_tryStatement (gI M 130 l1) M (fun M4 => k2_find_31 (w32 (l1 + 1)) M4 K) else k2_find_31 (w32 (l1 + 1)) M K)) else K M)) : k2_find_31 l1 M K := by
  intro sc d hd z2 hz2
  refine fr_iload_n (pc := 31) dX2_find_31 rfl rfl ?_
  refine fr_aload_n (pc := 32) dX2_find_32 rfl rfl ?_
  refine fr_getr (a := 132) (pc := 33) dX2_find_33 rfl pf_2_28 s0_132 rfl rf_132_0 ?_
  refine fr_getf (a := 2) (i := 16) (v := gI M 2 16) (t := 0) (pc := 36) dX2_find_36 rfl pf_2_61 rfl s0_2 rfl rfl ?_
  refine fr_icm_ge (tg := 76) (pc := 39) dX2_find_39 rfl hq (fun hc1 hq => ?_) (fun hc1 hq => ?_)
  · refine fr_aload_n (pc := 42) dX2_find_42 rfl rfl ?_
    refine fr_getr (a := 132) (pc := 43) dX2_find_43 rfl pf_2_44 s0_132 rfl rf_132_4 ?_
    refine fr_getr (a := 117) (pc := 46) dX2_find_46 rfl pf_2_66 s0_117 rfl rf_117_6 ?_
    refine fr_iconst (pc := 49) dX2_find_49 (by decide) ?_
    refine fr_aaload (a := 128) (pc := 50) dX2_find_50 rfl s0_128 (by decide) rws_128 ?_
    refine fr_iload_n (pc := 51) dX2_find_51 rfl rfl ?_
    obtain ⟨hb2, hq⟩ := hq
    refine fr_iaload (a := 130) (v := gI M 130 l1) (pc := 52) dX2_find_52 rfl s0_130 hb2 rfl ?_
    refine fr_istore_n (ls2 := [(2, 132), (0, l1), (0, gI M 130 l1)]) (pc := 53) dX2_find_53 rfl (Nat.le_of_ble_eq_true rfl) rfl ?_
    refine fr_aload_n (pc := 54) dX2_find_54 rfl rfl ?_
    refine fr_getr (a := 132) (pc := 55) dX2_find_55 rfl pf_2_40 s0_132 rfl rf_132_3 ?_
    refine fr_iload_n (pc := 58) dX2_find_58 rfl rfl ?_
    refine fr_inVI (a := 77) (as := [(0, gI M 130 l1)]) (rest := []) (ls' := [(2, 77), (0, gI M 130 l1)]) (c1 := 0) (c2 := 0) (pc := 59) dX2_find_59 pl_2_72 rfl ⟨Nat.le_of_ble_eq_true rfl, Nat.le_of_ble_eq_true rfl⟩ rfl rfl rfl s0_77 (Nat.le_of_ble_eq_true rfl) (by omega) rfl rfl (pm_zc _) ?_ (fun y M' h => h)
    refine fr_aload_n (pc := 0) dX6_couldMend_0 rfl rfl ?_
    refine fr_getf (a := 77) (i := 13) (v := gI M 77 13) (t := 1) (pc := 1) dX6_couldMend_1 rfl pf_6_60 rfl s0_77 rfl rfl ?_
    refine fr_iload_n (pc := 4) dX6_couldMend_4 rfl rfl ?_
    refine fr_lshr (pc := 5) dX6_couldMend_5 ?_
    refine fr_lconst (pc := 6) dX6_couldMend_6 rfl ?_
    refine fr_land (pc := 7) dX6_couldMend_7 ?_
    refine fr_lconst (pc := 8) dX6_couldMend_8 rfl ?_
    refine fr_lcmp (pc := 9) dX6_couldMend_9 ?_
    refine fr_ifc_ne (tg := 17) (pc := 10) dX6_couldMend_10 rfl hq (fun hc3 hq => ?_) (fun hc3 hq => ?_)
    · refine fr_iconst (pc := 13) dX6_couldMend_13 (by decide) ?_
      refine fr_goto (tg := 18) (pc := 14) dX6_couldMend_14 rfl ?_
      refine fr_iret (pc := 18) dX6_couldMend_18 (Or.inr (Or.inl ⟨rfl, Or.inr rfl⟩)) ?_
      refine fr_ifcF (tg := 70) (pc := 62) dX2_find_62 rfl rfl ?_
      refine fr_aload_n (pc := 65) dX2_find_65 rfl rfl ?_
      refine fr_iload_n (pc := 66) dX2_find_66 rfl rfl ?_
      refine fr_inVV (a := 132) (as := [(0, gI M 130 l1)]) (rest := []) (ls' := [(2, 132), (0, gI M 130 l1), (9, 0), (9, 0), (9, 0), (9, 0), (9, 0)]) (c1 := 0) (c2 := 0) (pc := 67) dX2_find_67 pl_2_76 rfl ⟨Nat.le_of_ble_eq_true rfl, Nat.le_of_ble_eq_true rfl⟩ rfl rfl rfl s0_132 (Nat.le_of_ble_eq_true rfl) (by omega) rfl rfl (pm_zc _) (hq sc _ (by omega)) (fun M4 hq => ?_)
      refine fr_iinc (z := w32 (l1 + 1)) (ls2 := [(2, 132), (0, w32 (l1 + 1)), (0, gI M 130 l1)]) (pc := 70) dX2_find_70 (Nat.le_of_ble_eq_true rfl) rfl rfl rfl ?_
      refine fr_goto (tg := 31) (pc := 73) dX2_find_73 rfl ?_
      exact hq sc d hd (0, gI M 130 l1) pm_t0
    · refine fr_iconst (pc := 17) dX6_couldMend_17 (by decide) ?_
      refine fr_iret (pc := 18) dX6_couldMend_18 (Or.inr (Or.inl ⟨rfl, Or.inl rfl⟩)) ?_
      refine fr_ifcT (tg := 70) (pc := 62) dX2_find_62 rfl rfl ?_
      refine fr_iinc (z := w32 (l1 + 1)) (ls2 := [(2, 132), (0, w32 (l1 + 1)), (0, gI M 130 l1)]) (pc := 70) dX2_find_70 (Nat.le_of_ble_eq_true rfl) rfl rfl rfl ?_
      refine fr_goto (tg := 31) (pc := 73) dX2_find_73 rfl ?_
      exact hq sc d hd (0, gI M 130 l1) pm_t0
  · exact fr_vret (pc := 76) dX2_find_76 rfl hq
theorem k2_tryStatement_r {a1 : Int} {M : pm_M} {K : pm_M → Prop} (hq : k2_tryStatement_2 a1 a1 M K) : k2_tryStatement a1 M K := by
  intro sc d hd
  refine fr_iload_n (pc := 0) dX2_tryStatement_0 rfl rfl ?_
  refine fr_istore_n (ls2 := [(2, 132), (0, a1), (0, a1), (9, 0), (9, 0), (9, 0), (9, 0)]) (pc := 1) dX2_tryStatement_1 rfl (Nat.le_of_ble_eq_true rfl) rfl ?_
  exact hq sc d hd (9, 0) pm_t9 (9, 0) pm_t9 (9, 0) pm_t9 (9, 0) pm_t9
theorem k2_tryStatement_2_r {l1 l2 : Int} {M : pm_M} {K : pm_M → Prop} (hq : ((0 ≤ l1 ∧ l1 < 60) ∧ (if l2 ≤ gI M 9 l1 then ((0 ≤ l2 ∧ l2 < 60) ∧ k0_changeCount l2 M (fun r5 M4 => k2_tryStatement_49 l1 l2 (gI M 4 l2) (gI M 5 l2) r5 0 M4 K)) else K M))) : k2_tryStatement_2 l1 l2 M K := by
  intro sc d hd z3 hz3 z4 hz4 z5 hz5 z6 hz6
  refine fr_iload_n (pc := 2) dX2_tryStatement_2 rfl rfl ?_
  refine fr_aload_n (pc := 3) dX2_tryStatement_3 rfl rfl ?_
  refine fr_getr (a := 132) (pc := 4) dX2_tryStatement_4 rfl pf_2_28 s0_132 rfl rf_132_0 ?_
  refine fr_getr (a := 2) (pc := 7) dX2_tryStatement_7 rfl pf_2_80 s0_2 rfl rf_2_6 ?_
  refine fr_iload_n (pc := 10) dX2_tryStatement_10 rfl rfl ?_
  obtain ⟨hb1, hq⟩ := hq
  refine fr_iaload (a := 9) (v := gI M 9 l1) (pc := 11) dX2_tryStatement_11 rfl s0_9 hb1 rfl ?_
  refine fr_icm_gt (tg := 106) (pc := 12) dX2_tryStatement_12 rfl hq (fun hc2 hq => ?_) (fun hc2 hq => ?_)
  · refine fr_aload_n (pc := 15) dX2_tryStatement_15 rfl rfl ?_
    refine fr_getr (a := 132) (pc := 16) dX2_tryStatement_16 rfl pf_2_28 s0_132 rfl rf_132_0 ?_
    refine fr_getr (a := 2) (pc := 19) dX2_tryStatement_19 rfl pf_2_83 s0_2 rfl rf_2_1 ?_
    refine fr_iload_n (pc := 22) dX2_tryStatement_22 rfl rfl ?_
    obtain ⟨hb3, hq⟩ := hq
    refine fr_iaload (a := 4) (v := gI M 4 l2) (pc := 23) dX2_tryStatement_23 rfl s0_4 hb3 rfl ?_
    refine fr_istore_n (ls2 := [(2, 132), (0, l1), (0, l2), (0, gI M 4 l2), z4, z5, z6]) (pc := 24) dX2_tryStatement_24 rfl (Nat.le_of_ble_eq_true rfl) rfl ?_
    refine fr_aload_n (pc := 25) dX2_tryStatement_25 rfl rfl ?_
    refine fr_getr (a := 132) (pc := 26) dX2_tryStatement_26 rfl pf_2_28 s0_132 rfl rf_132_0 ?_
    refine fr_getr (a := 2) (pc := 29) dX2_tryStatement_29 rfl pf_2_86 s0_2 rfl rf_2_2 ?_
    refine fr_iload_n (pc := 32) dX2_tryStatement_32 rfl rfl ?_
    refine fr_iaload (a := 5) (v := gI M 5 l2) (pc := 33) dX2_tryStatement_33 rfl s0_5 hb3 rfl ?_
    refine fr_istore (ls2 := [(2, 132), (0, l1), (0, l2), (0, gI M 4 l2), (0, gI M 5 l2), z5, z6]) (pc := 34) dX2_tryStatement_34 rfl (Nat.le_of_ble_eq_true rfl) rfl ?_
    refine fr_aload_n (pc := 36) dX2_tryStatement_36 rfl rfl ?_
    refine fr_getr (a := 132) (pc := 37) dX2_tryStatement_37 rfl pf_2_28 s0_132 rfl rf_132_0 ?_
    refine fr_iload_n (pc := 40) dX2_tryStatement_40 rfl rfl ?_
    refine fr_inVI (a := 2) (as := [(0, l2)]) (rest := []) (ls' := [(2, 2), (0, l2)]) (c1 := 0) (c2 := 0) (pc := 41) dX2_tryStatement_41 pl_2_89 rfl ⟨Nat.le_of_ble_eq_true rfl, Nat.le_of_ble_eq_true rfl⟩ rfl rfl rfl s0_2 (Nat.le_of_ble_eq_true rfl) (by omega) rfl rfl (pm_zc _) (hq sc _ (by omega)) (fun r5 M4 hq => ?_)
    refine fr_istore (ls2 := [(2, 132), (0, l1), (0, l2), (0, gI M 4 l2), (0, gI M 5 l2), (0, r5), z6]) (pc := 44) dX2_tryStatement_44 rfl (Nat.le_of_ble_eq_true rfl) rfl ?_
    refine fr_iconst (pc := 46) dX2_tryStatement_46 (by decide) ?_
    refine fr_istore (ls2 := [(2, 132), (0, l1), (0, l2), (0, gI M 4 l2), (0, gI M 5 l2), (0, r5), (0, 0)]) (pc := 47) dX2_tryStatement_47 rfl (Nat.le_of_ble_eq_true rfl) rfl ?_
    exact hq sc d hd
  · exact fr_vret (pc := 106) dX2_tryStatement_106 rfl hq
theorem k2_tryStatement_49_r {l1 l2 l3 l4 l5 l6 : Int} {M : pm_M} {K : pm_M → Prop} (hq : (if l6 < l5 then k0_apply l2 l6 M (fun M2 => k1_allShownPass M2 (fun r5 M4 => (if r5 = 0 then ((0 ≤ l2 ∧ l2 < 60) ∧ k2_tryStatement_49 l1 l2 l3 l4 l5 (w32 (l6 + 1)) (upI (upI M4 4 l2 l3) 5 l2 l4) K) else k2_keep l2 l6 M4 (fun M8 => ((0 ≤ l2 ∧ l2 < 60) ∧ k2_tryStatement_49 l1 l2 l3 l4 l5 (w32 (l6 + 1)) (upI (upI M8 4 l2 l3) 5 l2 l4) K))))) else k2_tryStatement_2 l1 (w32 (l2 + 1)) M K)) : k2_tryStatement_49 l1 l2 l3 l4 l5 l6 M K := by
  intro sc d hd
  refine fr_iload (pc := 49) dX2_tryStatement_49 rfl rfl ?_
  refine fr_iload (pc := 51) dX2_tryStatement_51 rfl rfl ?_
  refine fr_icm_ge (tg := 100) (pc := 53) dX2_tryStatement_53 rfl hq (fun hc1 hq => ?_) (fun hc1 hq => ?_)
  · refine fr_aload_n (pc := 56) dX2_tryStatement_56 rfl rfl ?_
    refine fr_getr (a := 132) (pc := 57) dX2_tryStatement_57 rfl pf_2_28 s0_132 rfl rf_132_0 ?_
    refine fr_iload_n (pc := 60) dX2_tryStatement_60 rfl rfl ?_
    refine fr_iload (pc := 61) dX2_tryStatement_61 rfl rfl ?_
    refine fr_inVV (a := 2) (as := [(0, l2), (0, l6)]) (rest := []) (ls' := [(2, 2), (0, l2), (0, l6)]) (c1 := 0) (c2 := 0) (pc := 63) dX2_tryStatement_63 pl_2_93 rfl ⟨Nat.le_of_ble_eq_true rfl, Nat.le_of_ble_eq_true rfl⟩ rfl rfl rfl s0_2 (Nat.le_of_ble_eq_true rfl) (by omega) rfl rfl (pm_zc _) (hq sc _ (by omega)) (fun M2 hq => ?_)
    refine fr_aload_n (pc := 66) dX2_tryStatement_66 rfl rfl ?_
    refine fr_getr (a := 132) (pc := 67) dX2_tryStatement_67 rfl pf_2_36 s0_132 rfl rf_132_2 ?_
    refine fr_inVI (a := 73) (as := []) (rest := []) (ls' := [(2, 73), (9, 0), (9, 0)]) (c1 := 0) (c2 := 0) (pc := 70) dX2_tryStatement_70 pl_2_97 rfl ⟨Nat.le_of_ble_eq_true rfl, Nat.le_of_ble_eq_true rfl⟩ rfl rfl rfl s0_73 (Nat.le_of_ble_eq_true rfl) (by omega) rfl rfl (pm_zc _) (hq sc _ (by omega)) (fun r5 M4 hq => ?_)
    refine fr_ifc_eq (tg := 83) (pc := 73) dX2_tryStatement_73 rfl hq (fun hc6 hq => ?_) (fun hc6 hq => ?_)
    · refine fr_aload_n (pc := 83) dX2_tryStatement_83 rfl rfl ?_
      refine fr_getr (a := 132) (pc := 84) dX2_tryStatement_84 rfl pf_2_28 s0_132 rfl rf_132_0 ?_
      refine fr_iload_n (pc := 87) dX2_tryStatement_87 rfl rfl ?_
      refine fr_iload_n (pc := 88) dX2_tryStatement_88 rfl rfl ?_
      refine fr_iload (pc := 89) dX2_tryStatement_89 rfl rfl ?_
      refine fr_inVV (a := 2) (as := [(0, l2), (0, l3), (0, l4)]) (rest := []) (ls' := [(2, 2), (0, l2), (0, l3), (0, l4)]) (c1 := 0) (c2 := 0) (pc := 91) dX2_tryStatement_91 pl_2_106 rfl ⟨Nat.le_of_ble_eq_true rfl, Nat.le_of_ble_eq_true rfl⟩ rfl rfl rfl s0_2 (Nat.le_of_ble_eq_true rfl) (by omega) rfl rfl (pm_zc _) ?_ (fun M' h => h)
      refine fr_aload_n (pc := 0) dX0_restore_0 rfl rfl ?_
      refine fr_getr (a := 2) (pc := 1) dX0_restore_1 rfl pf_0_15 s0_2 rfl rf_2_1 ?_
      refine fr_iload_n (pc := 4) dX0_restore_4 rfl rfl ?_
      refine fr_iload_n (pc := 5) dX0_restore_5 rfl rfl ?_
      obtain ⟨hb7, hq⟩ := hq
      refine fr_iastore (a := 4) (pc := 6) dX0_restore_6 rfl s0_4 hb7 nr_4 ?_
      refine fr_aload_n (pc := 7) dX0_restore_7 rfl rfl ?_
      refine fr_getr (a := 2) (pc := 8) dX0_restore_8 rfl pf_0_18 s0_2 rfl rf_2_2 ?_
      refine fr_iload_n (pc := 11) dX0_restore_11 rfl rfl ?_
      refine fr_iload_n (pc := 12) dX0_restore_12 rfl rfl ?_
      refine fr_iastore (a := 5) (pc := 13) dX0_restore_13 rfl s0_5 hb7 nr_5 ?_
      refine fr_vret (pc := 14) dX0_restore_14 rfl ?_
      refine fr_iinc (z := w32 (l6 + 1)) (ls2 := [(2, 132), (0, l1), (0, l2), (0, l3), (0, l4), (0, l5), (0, w32 (l6 + 1))]) (pc := 94) dX2_tryStatement_94 (Nat.le_of_ble_eq_true rfl) rfl rfl rfl ?_
      refine fr_goto (tg := 49) (pc := 97) dX2_tryStatement_97 rfl ?_
      exact hq sc d hd
    · refine fr_aload_n (pc := 76) dX2_tryStatement_76 rfl rfl ?_
      refine fr_iload_n (pc := 77) dX2_tryStatement_77 rfl rfl ?_
      refine fr_iload (pc := 78) dX2_tryStatement_78 rfl rfl ?_
      refine fr_inVV (a := 132) (as := [(0, l2), (0, l6)]) (rest := []) (ls' := [(2, 132), (0, l2), (0, l6), (9, 0)]) (c1 := 0) (c2 := 0) (pc := 80) dX2_tryStatement_80 pl_2_103 rfl ⟨Nat.le_of_ble_eq_true rfl, Nat.le_of_ble_eq_true rfl⟩ rfl rfl rfl s0_132 (Nat.le_of_ble_eq_true rfl) (by omega) rfl rfl (pm_zc _) (hq sc _ (by omega)) (fun M8 hq => ?_)
      refine fr_aload_n (pc := 83) dX2_tryStatement_83 rfl rfl ?_
      refine fr_getr (a := 132) (pc := 84) dX2_tryStatement_84 rfl pf_2_28 s0_132 rfl rf_132_0 ?_
      refine fr_iload_n (pc := 87) dX2_tryStatement_87 rfl rfl ?_
      refine fr_iload_n (pc := 88) dX2_tryStatement_88 rfl rfl ?_
      refine fr_iload (pc := 89) dX2_tryStatement_89 rfl rfl ?_
      refine fr_inVV (a := 2) (as := [(0, l2), (0, l3), (0, l4)]) (rest := []) (ls' := [(2, 2), (0, l2), (0, l3), (0, l4)]) (c1 := 0) (c2 := 0) (pc := 91) dX2_tryStatement_91 pl_2_106 rfl ⟨Nat.le_of_ble_eq_true rfl, Nat.le_of_ble_eq_true rfl⟩ rfl rfl rfl s0_2 (Nat.le_of_ble_eq_true rfl) (by omega) rfl rfl (pm_zc _) ?_ (fun M' h => h)
      refine fr_aload_n (pc := 0) dX0_restore_0 rfl rfl ?_
      refine fr_getr (a := 2) (pc := 1) dX0_restore_1 rfl pf_0_15 s0_2 rfl rf_2_1 ?_
      refine fr_iload_n (pc := 4) dX0_restore_4 rfl rfl ?_
      refine fr_iload_n (pc := 5) dX0_restore_5 rfl rfl ?_
      obtain ⟨hb10, hq⟩ := hq
      refine fr_iastore (a := 4) (pc := 6) dX0_restore_6 rfl s0_4 hb10 nr_4 ?_
      refine fr_aload_n (pc := 7) dX0_restore_7 rfl rfl ?_
      refine fr_getr (a := 2) (pc := 8) dX0_restore_8 rfl pf_0_18 s0_2 rfl rf_2_2 ?_
      refine fr_iload_n (pc := 11) dX0_restore_11 rfl rfl ?_
      refine fr_iload_n (pc := 12) dX0_restore_12 rfl rfl ?_
      refine fr_iastore (a := 5) (pc := 13) dX0_restore_13 rfl s0_5 hb10 nr_5 ?_
      refine fr_vret (pc := 14) dX0_restore_14 rfl ?_
      refine fr_iinc (z := w32 (l6 + 1)) (ls2 := [(2, 132), (0, l1), (0, l2), (0, l3), (0, l4), (0, l5), (0, w32 (l6 + 1))]) (pc := 94) dX2_tryStatement_94 (Nat.le_of_ble_eq_true rfl) rfl rfl rfl ?_
      refine fr_goto (tg := 49) (pc := 97) dX2_tryStatement_97 rfl ?_
      exact hq sc d hd
  · refine fr_iinc (z := w32 (l2 + 1)) (ls2 := [(2, 132), (0, l1), (0, w32 (l2 + 1)), (0, l3), (0, l4), (0, l5), (0, l6)]) (pc := 100) dX2_tryStatement_100 (Nat.le_of_ble_eq_true rfl) rfl rfl rfl ?_
    refine fr_goto (tg := 2) (pc := 103) dX2_tryStatement_103 rfl ?_
    exact hq sc d hd (0, l3) pm_t0 (0, l4) pm_t0 (0, l5) pm_t0 (0, l6) pm_t0

-- needs 30 31 32
theorem k12_adds_r {a1 a2 a3 : Int} {M : pm_M} {K : Int → pm_M → Prop} (hq : ((0 ≤ w32 (100 + (gI M 142 18)) ∧ w32 (100 + (gI M 142 18)) < 800) ∧ K (w32 ((w32 ((gI M 142 18) + 1)) - 1)) (upI (upI (upI (upI (upI (upI (upI (upI (upI M 145 (w32 (100 + (gI M 142 18))) a1) 146 (w32 (100 + (gI M 142 18))) a2) 147 (w32 (100 + (gI M 142 18))) a3) 148 (w32 (100 + (gI M 142 18))) (-1)) 149 (w32 (100 + (gI M 142 18))) (-1)) 150 (w32 (100 + (gI M 142 18))) (-1)) 151 (w32 (100 + (gI M 142 18))) (-1)) 152 (w32 (100 + (gI M 142 18))) (-1)) 142 18 (w32 ((gI M 142 18) + 1))))) : k12_adds a1 a2 a3 M K := by
  intro sc d hd
  refine fr_bipush (pc := 0) dX12_adds_0 (by decide) ?_
  refine fr_aload_n (pc := 2) dX12_adds_2 rfl rfl ?_
  refine fr_getf (a := 142) (i := 18) (v := gI M 142 18) (t := 0) (pc := 3) dX12_adds_3 rfl pf_12_170 rfl s0_142 rfl rfl ?_
  refine fr_iadd (z := w32 (100 + (gI M 142 18))) (pc := 6) dX12_adds_6 rfl ?_
  refine fr_istore (ls2 := [(2, 142), (0, a1), (0, a2), (0, a3), (0, w32 (100 + (gI M 142 18)))]) (pc := 7) dX12_adds_7 rfl (Nat.le_of_ble_eq_true rfl) rfl ?_
  refine fr_aload_n (pc := 9) dX12_adds_9 rfl rfl ?_
  refine fr_getr (a := 142) (pc := 10) dX12_adds_10 rfl pf_12_17 s0_142 rfl rf_142_10 ?_
  refine fr_iload (pc := 13) dX12_adds_13 rfl rfl ?_
  refine fr_iload_n (pc := 15) dX12_adds_15 rfl rfl ?_
  obtain ⟨hb1, hq⟩ := hq
  refine fr_iastore (a := 145) (pc := 16) dX12_adds_16 rfl s0_145 hb1 nr_145 ?_
  refine fr_aload_n (pc := 17) dX12_adds_17 rfl rfl ?_
  refine fr_getr (a := 142) (pc := 18) dX12_adds_18 rfl pf_12_20 s0_142 rfl rf_142_11 ?_
  refine fr_iload (pc := 21) dX12_adds_21 rfl rfl ?_
  refine fr_iload_n (pc := 23) dX12_adds_23 rfl rfl ?_
  refine fr_iastore (a := 146) (pc := 24) dX12_adds_24 rfl s0_146 hb1 nr_146 ?_
  refine fr_aload_n (pc := 25) dX12_adds_25 rfl rfl ?_
  refine fr_getr (a := 142) (pc := 26) dX12_adds_26 rfl pf_12_23 s0_142 rfl rf_142_12 ?_
  refine fr_iload (pc := 29) dX12_adds_29 rfl rfl ?_
  refine fr_iload_n (pc := 31) dX12_adds_31 rfl rfl ?_
  refine fr_iastore (a := 147) (pc := 32) dX12_adds_32 rfl s0_147 hb1 nr_147 ?_
  refine fr_aload_n (pc := 33) dX12_adds_33 rfl rfl ?_
  refine fr_getr (a := 142) (pc := 34) dX12_adds_34 rfl pf_12_26 s0_142 rfl rf_142_13 ?_
  refine fr_iload (pc := 37) dX12_adds_37 rfl rfl ?_
  refine fr_iconst (pc := 39) dX12_adds_39 (by decide) ?_
  refine fr_iastore (a := 148) (pc := 40) dX12_adds_40 rfl s0_148 hb1 nr_148 ?_
  refine fr_aload_n (pc := 41) dX12_adds_41 rfl rfl ?_
  refine fr_getr (a := 142) (pc := 42) dX12_adds_42 rfl pf_12_29 s0_142 rfl rf_142_14 ?_
  refine fr_iload (pc := 45) dX12_adds_45 rfl rfl ?_
  refine fr_iconst (pc := 47) dX12_adds_47 (by decide) ?_
  refine fr_iastore (a := 149) (pc := 48) dX12_adds_48 rfl s0_149 hb1 nr_149 ?_
  refine fr_aload_n (pc := 49) dX12_adds_49 rfl rfl ?_
  refine fr_getr (a := 142) (pc := 50) dX12_adds_50 rfl pf_12_32 s0_142 rfl rf_142_15 ?_
  refine fr_iload (pc := 53) dX12_adds_53 rfl rfl ?_
  refine fr_iconst (pc := 55) dX12_adds_55 (by decide) ?_
  refine fr_iastore (a := 150) (pc := 56) dX12_adds_56 rfl s0_150 hb1 nr_150 ?_
  refine fr_aload_n (pc := 57) dX12_adds_57 rfl rfl ?_
  refine fr_getr (a := 142) (pc := 58) dX12_adds_58 rfl pf_12_35 s0_142 rfl rf_142_16 ?_
  refine fr_iload (pc := 61) dX12_adds_61 rfl rfl ?_
  refine fr_iconst (pc := 63) dX12_adds_63 (by decide) ?_
  refine fr_iastore (a := 151) (pc := 64) dX12_adds_64 rfl s0_151 hb1 nr_151 ?_
  refine fr_aload_n (pc := 65) dX12_adds_65 rfl rfl ?_
  refine fr_getr (a := 142) (pc := 66) dX12_adds_66 rfl pf_12_38 s0_142 rfl rf_142_17 ?_
  refine fr_iload (pc := 69) dX12_adds_69 rfl rfl ?_
  refine fr_iconst (pc := 71) dX12_adds_71 (by decide) ?_
  refine fr_iastore (a := 152) (pc := 72) dX12_adds_72 rfl s0_152 hb1 nr_152 ?_
  refine fr_aload_n (pc := 73) dX12_adds_73 rfl rfl ?_
  refine fr_dup (pc := 74) dX12_adds_74 pm_t2 ?_
  refine fr_getf (a := 142) (i := 18) (v := gI M 142 18) (t := 0) (pc := 75) dX12_adds_75 rfl pf_12_170 rfl s0_142 rfl ((gI_ne _ _ _ _ (by decide)).trans ((gI_ne _ _ _ _ (by decide)).trans ((gI_ne _ _ _ _ (by decide)).trans ((gI_ne _ _ _ _ (by decide)).trans ((gI_ne _ _ _ _ (by decide)).trans ((gI_ne _ _ _ _ (by decide)).trans ((gI_ne _ _ _ _ (by decide)).trans (gI_ne _ _ _ _ (by decide))))))))) ?_
  refine fr_iconst (pc := 78) dX12_adds_78 (by decide) ?_
  refine fr_iadd (z := w32 ((gI M 142 18) + 1)) (pc := 79) dX12_adds_79 rfl ?_
  refine fr_put (a := 142) (i := 18) (pc := 80) dX12_adds_80 rfl pf_12_170 rfl s0_142 rfl rfl nf_142_18 rfl ?_
  refine fr_aload_n (pc := 83) dX12_adds_83 rfl rfl ?_
  refine fr_getf (a := 142) (i := 18) (v := w32 ((gI M 142 18) + 1)) (t := 0) (pc := 84) dX12_adds_84 rfl pf_12_170 rfl s0_142 rfl (gI_eq _ _ _ _) ?_
  refine fr_iconst (pc := 87) dX12_adds_87 (by decide) ?_
  refine fr_isub (z := w32 ((w32 ((gI M 142 18) + 1)) - 1)) (pc := 88) dX12_adds_88 rfl ?_
  exact fr_iret (pc := 89) dX12_adds_89 (Or.inl rfl) hq
theorem k12_sign_r {a1 : Int} {M : pm_M} {K : Int → pm_M → Prop} (hq : (if gI M 142 6 = 3 then (if gI M 142 7 = a1 then k12_go M (fun M3 => K 1 M3) else (if gI M 142 8 = 0 then K 0 (upI M 142 8 (w32 ((w32 (8 * (gI M 142 4))) + 1))) else K 0 (upI M 142 8 (gI M 142 8)))) else (if gI M 142 8 = 0 then K 0 (upI M 142 8 (w32 ((w32 (8 * (gI M 142 4))) + 1))) else K 0 (upI M 142 8 (gI M 142 8))))) : k12_sign a1 M K := by
  intro sc d hd
  refine fr_aload_n (pc := 0) dX12_sign_0 rfl rfl ?_
  refine fr_iload_n (pc := 1) dX12_sign_1 rfl rfl ?_
  refine fr_inVI (a := 142) (as := [(0, a1)]) (rest := []) (ls' := [(2, 142), (0, a1)]) (c1 := 0) (c2 := 0) (pc := 2) dX12_sign_2 pl_12_161 rfl ⟨Nat.le_of_ble_eq_true rfl, Nat.le_of_ble_eq_true rfl⟩ rfl rfl rfl s0_142 (Nat.le_of_ble_eq_true rfl) (by omega) rfl rfl (pm_zc _) ?_ (fun y M' h => h)
  refine fr_aload_n (pc := 0) dX12_is_0 rfl rfl ?_
  refine fr_getf (a := 142) (i := 6) (v := gI M 142 6) (t := 0) (pc := 1) dX12_is_1 rfl pf_12_144 rfl s0_142 rfl rfl ?_
  refine fr_iconst (pc := 4) dX12_is_4 (by decide) ?_
  refine fr_icm_ne (tg := 20) (pc := 5) dX12_is_5 rfl hq (fun hc1 hq => ?_) (fun hc1 hq => ?_)
  · refine fr_aload_n (pc := 8) dX12_is_8 rfl rfl ?_
    refine fr_getf (a := 142) (i := 7) (v := gI M 142 7) (t := 0) (pc := 9) dX12_is_9 rfl pf_12_151 rfl s0_142 rfl rfl ?_
    refine fr_iload_n (pc := 12) dX12_is_12 rfl rfl ?_
    refine fr_icm_ne (tg := 20) (pc := 13) dX12_is_13 rfl hq (fun hc2 hq => ?_) (fun hc2 hq => ?_)
    · refine fr_iconst (pc := 16) dX12_is_16 (by decide) ?_
      refine fr_goto (tg := 21) (pc := 17) dX12_is_17 rfl ?_
      refine fr_iret (pc := 21) dX12_is_21 (Or.inr (Or.inl ⟨rfl, Or.inr rfl⟩)) ?_
      refine fr_ifcT (tg := 14) (pc := 5) dX12_sign_5 rfl rfl ?_
      refine fr_aload_n (pc := 14) dX12_sign_14 rfl rfl ?_
      refine fr_inVV (a := 142) (as := []) (rest := []) (ls' := [(2, 142), (9, 0)]) (c1 := 0) (c2 := 0) (pc := 15) dX12_sign_15 pl_12_167 rfl ⟨Nat.le_of_ble_eq_true rfl, Nat.le_of_ble_eq_true rfl⟩ rfl rfl rfl s0_142 (Nat.le_of_ble_eq_true rfl) (by omega) rfl rfl (pm_zc _) (hq sc _ (by omega)) (fun M3 hq => ?_)
      refine fr_iconst (pc := 18) dX12_sign_18 (by decide) ?_
      exact fr_iret (pc := 19) dX12_sign_19 (Or.inr (Or.inl ⟨rfl, Or.inr rfl⟩)) hq
    · refine fr_iconst (pc := 20) dX12_is_20 (by decide) ?_
      refine fr_iret (pc := 21) dX12_is_21 (Or.inr (Or.inl ⟨rfl, Or.inl rfl⟩)) ?_
      refine fr_ifcF (tg := 14) (pc := 5) dX12_sign_5 rfl rfl ?_
      refine fr_aload_n (pc := 8) dX12_sign_8 rfl rfl ?_
      refine fr_iconst (pc := 9) dX12_sign_9 (by decide) ?_
      refine fr_inVI (a := 142) (as := [(0, 1)]) (rest := []) (ls' := [(2, 142), (0, 1)]) (c1 := 0) (c2 := 0) (pc := 10) dX12_sign_10 pl_12_164 rfl ⟨Nat.le_of_ble_eq_true rfl, Nat.le_of_ble_eq_true rfl⟩ rfl rfl rfl s0_142 (Nat.le_of_ble_eq_true rfl) (by omega) rfl rfl (pm_zc _) ?_ (fun y M' h => h)
      refine fr_aload_n (pc := 0) dX12_bad_0 rfl rfl ?_
      refine fr_aload_n (pc := 1) dX12_bad_1 rfl rfl ?_
      refine fr_getf (a := 142) (i := 8) (v := gI M 142 8) (t := 0) (pc := 2) dX12_bad_2 rfl pf_12_158 rfl s0_142 rfl rfl ?_
      refine fr_ifc_ne (tg := 20) (pc := 5) dX12_bad_5 rfl hq (fun hc5 hq => ?_) (fun hc5 hq => ?_)
      · refine fr_bipush (pc := 8) dX12_bad_8 (by decide) ?_
        refine fr_aload_n (pc := 10) dX12_bad_10 rfl rfl ?_
        refine fr_getf (a := 142) (i := 4) (v := gI M 142 4) (t := 0) (pc := 11) dX12_bad_11 rfl pf_12_141 rfl s0_142 rfl rfl ?_
        refine fr_imul (z := w32 (8 * (gI M 142 4))) (pc := 14) dX12_bad_14 rfl ?_
        refine fr_iload_n (pc := 15) dX12_bad_15 rfl rfl ?_
        refine fr_iadd (z := w32 ((w32 (8 * (gI M 142 4))) + 1)) (pc := 16) dX12_bad_16 rfl ?_
        refine fr_goto (tg := 24) (pc := 17) dX12_bad_17 rfl ?_
        refine fr_put (a := 142) (i := 8) (pc := 24) dX12_bad_24 rfl pf_12_158 rfl s0_142 rfl rfl nf_142_8 rfl ?_
        refine fr_iconst (pc := 27) dX12_bad_27 (by decide) ?_
        refine fr_iret (pc := 28) dX12_bad_28 (Or.inr (Or.inl ⟨rfl, Or.inl rfl⟩)) ?_
        exact fr_iret (pc := 13) dX12_sign_13 (Or.inr (Or.inl ⟨rfl, Or.inl rfl⟩)) hq
      · refine fr_aload_n (pc := 20) dX12_bad_20 rfl rfl ?_
        refine fr_getf (a := 142) (i := 8) (v := gI M 142 8) (t := 0) (pc := 21) dX12_bad_21 rfl pf_12_158 rfl s0_142 rfl rfl ?_
        refine fr_put (a := 142) (i := 8) (pc := 24) dX12_bad_24 rfl pf_12_158 rfl s0_142 rfl rfl nf_142_8 rfl ?_
        refine fr_iconst (pc := 27) dX12_bad_27 (by decide) ?_
        refine fr_iret (pc := 28) dX12_bad_28 (Or.inr (Or.inl ⟨rfl, Or.inl rfl⟩)) ?_
        exact fr_iret (pc := 13) dX12_sign_13 (Or.inr (Or.inl ⟨rfl, Or.inl rfl⟩)) hq
  · refine fr_iconst (pc := 20) dX12_is_20 (by decide) ?_
    refine fr_iret (pc := 21) dX12_is_21 (Or.inr (Or.inl ⟨rfl, Or.inl rfl⟩)) ?_
    refine fr_ifcF (tg := 14) (pc := 5) dX12_sign_5 rfl rfl ?_
    refine fr_aload_n (pc := 8) dX12_sign_8 rfl rfl ?_
    refine fr_iconst (pc := 9) dX12_sign_9 (by decide) ?_
    refine fr_inVI (a := 142) (as := [(0, 1)]) (rest := []) (ls' := [(2, 142), (0, 1)]) (c1 := 0) (c2 := 0) (pc := 10) dX12_sign_10 pl_12_164 rfl ⟨Nat.le_of_ble_eq_true rfl, Nat.le_of_ble_eq_true rfl⟩ rfl rfl rfl s0_142 (Nat.le_of_ble_eq_true rfl) (by omega) rfl rfl (pm_zc _) ?_ (fun y M' h => h)
    refine fr_aload_n (pc := 0) dX12_bad_0 rfl rfl ?_
    refine fr_aload_n (pc := 1) dX12_bad_1 rfl rfl ?_
    refine fr_getf (a := 142) (i := 8) (v := gI M 142 8) (t := 0) (pc := 2) dX12_bad_2 rfl pf_12_158 rfl s0_142 rfl rfl ?_
    refine fr_ifc_ne (tg := 20) (pc := 5) dX12_bad_5 rfl hq (fun hc6 hq => ?_) (fun hc6 hq => ?_)
    · refine fr_bipush (pc := 8) dX12_bad_8 (by decide) ?_
      refine fr_aload_n (pc := 10) dX12_bad_10 rfl rfl ?_
      refine fr_getf (a := 142) (i := 4) (v := gI M 142 4) (t := 0) (pc := 11) dX12_bad_11 rfl pf_12_141 rfl s0_142 rfl rfl ?_
      refine fr_imul (z := w32 (8 * (gI M 142 4))) (pc := 14) dX12_bad_14 rfl ?_
      refine fr_iload_n (pc := 15) dX12_bad_15 rfl rfl ?_
      refine fr_iadd (z := w32 ((w32 (8 * (gI M 142 4))) + 1)) (pc := 16) dX12_bad_16 rfl ?_
      refine fr_goto (tg := 24) (pc := 17) dX12_bad_17 rfl ?_
      refine fr_put (a := 142) (i := 8) (pc := 24) dX12_bad_24 rfl pf_12_158 rfl s0_142 rfl rfl nf_142_8 rfl ?_
      refine fr_iconst (pc := 27) dX12_bad_27 (by decide) ?_
      refine fr_iret (pc := 28) dX12_bad_28 (Or.inr (Or.inl ⟨rfl, Or.inl rfl⟩)) ?_
      exact fr_iret (pc := 13) dX12_sign_13 (Or.inr (Or.inl ⟨rfl, Or.inl rfl⟩)) hq
    · refine fr_aload_n (pc := 20) dX12_bad_20 rfl rfl ?_
      refine fr_getf (a := 142) (i := 8) (v := gI M 142 8) (t := 0) (pc := 21) dX12_bad_21 rfl pf_12_158 rfl s0_142 rfl rfl ?_
      refine fr_put (a := 142) (i := 8) (pc := 24) dX12_bad_24 rfl pf_12_158 rfl s0_142 rfl rfl nf_142_8 rfl ?_
      refine fr_iconst (pc := 27) dX12_bad_27 (by decide) ?_
      refine fr_iret (pc := 28) dX12_bad_28 (Or.inr (Or.inl ⟨rfl, Or.inl rfl⟩)) ?_
      exact fr_iret (pc := 13) dX12_sign_13 (Or.inr (Or.inl ⟨rfl, Or.inl rfl⟩)) hq
theorem k12_e_r {h : Nat} {a1 : Int} {M : pm_M} {K : Int → pm_M → Prop} (hh : 22 ≤ h) (hq : k12_sum (h - 1) a1 M (fun r2 M1 => (if r2 = 0 then ((r2 = 0 ∨ r2 = 1) ∧ K r2 M1) else k12_isOf 5 10 M1 (fun r6 M5 => (if r6 = 0 then ((r2 = 0 ∨ r2 = 1) ∧ K r2 M5) else k12_joins (gI M 142 18) a1 M5 (fun r10 M9 => k12_sum (h - 1) r10 M9 (fun r12 M11 => ((r12 = 0 ∨ r12 = 1) ∧ K r12 M11)))))))) : k12_e h a1 M K := by
  intro sc d hd
  refine fr_aload_n (pc := 0) dX12_e_0 rfl rfl ?_
  refine fr_getf (a := 142) (i := 18) (v := gI M 142 18) (t := 0) (pc := 1) dX12_e_1 rfl pf_12_170 rfl s0_142 rfl rfl ?_
  refine fr_istore_n (ls2 := [(2, 142), (0, a1), (0, gI M 142 18), (9, 0)]) (pc := 4) dX12_e_4 rfl (Nat.le_of_ble_eq_true rfl) rfl ?_
  refine fr_aload_n (pc := 5) dX12_e_5 rfl rfl ?_
  refine fr_iload_n (pc := 6) dX12_e_6 rfl rfl ?_
  refine fr_inVI (a := 142) (as := [(0, a1)]) (rest := []) (ls' := [(2, 142), (0, a1), (9, 0), (9, 0)]) (c1 := 0) (c2 := 0) (pc := 7) dX12_e_7 pl_12_211 rfl ⟨Nat.le_of_ble_eq_true rfl, Nat.le_of_ble_eq_true rfl⟩ rfl rfl rfl s0_142 (Nat.le_of_ble_eq_true rfl) (by omega) rfl rfl (pm_zc _) (hq sc _ (by omega)) (fun r2 M1 hq => ?_)
  refine fr_istore_n (ls2 := [(2, 142), (0, a1), (0, gI M 142 18), (0, r2)]) (pc := 10) dX12_e_10 rfl (Nat.le_of_ble_eq_true rfl) rfl ?_
  refine fr_iload_n (pc := 11) dX12_e_11 rfl rfl ?_
  refine fr_ifc_eq (tg := 36) (pc := 12) dX12_e_12 rfl hq (fun hc3 hq => ?_) (fun hc3 hq => ?_)
  · refine fr_iload_n (pc := 36) dX12_e_36 rfl rfl ?_
    obtain ⟨hz4, hq⟩ := hq
    exact fr_iret (pc := 37) dX12_e_37 (Or.inr (Or.inl ⟨rfl, hz4⟩)) hq
  · refine fr_aload_n (pc := 15) dX12_e_15 rfl rfl ?_
    refine fr_iconst (pc := 16) dX12_e_16 (by decide) ?_
    refine fr_bipush (pc := 17) dX12_e_17 (by decide) ?_
    refine fr_inVI (a := 142) (as := [(0, 5), (0, 10)]) (rest := []) (ls' := [(2, 142), (0, 5), (0, 10)]) (c1 := 0) (c2 := 0) (pc := 19) dX12_e_19 pl_12_200 rfl ⟨Nat.le_of_ble_eq_true rfl, Nat.le_of_ble_eq_true rfl⟩ rfl rfl rfl s0_142 (Nat.le_of_ble_eq_true rfl) (by omega) rfl rfl (pm_zc _) (hq sc _ (by omega)) (fun r6 M5 hq => ?_)
    refine fr_ifc_eq (tg := 36) (pc := 22) dX12_e_22 rfl hq (fun hc7 hq => ?_) (fun hc7 hq => ?_)
    · refine fr_iload_n (pc := 36) dX12_e_36 rfl rfl ?_
      obtain ⟨hz8, hq⟩ := hq
      exact fr_iret (pc := 37) dX12_e_37 (Or.inr (Or.inl ⟨rfl, hz8⟩)) hq
    · refine fr_aload_n (pc := 25) dX12_e_25 rfl rfl ?_
      refine fr_aload_n (pc := 26) dX12_e_26 rfl rfl ?_
      refine fr_iload_n (pc := 27) dX12_e_27 rfl rfl ?_
      refine fr_iload_n (pc := 28) dX12_e_28 rfl rfl ?_
      refine fr_inVI (a := 142) (as := [(0, gI M 142 18), (0, a1)]) (rest := [(2, 142)]) (ls' := [(2, 142), (0, gI M 142 18), (0, a1), (9, 0)]) (c1 := 0) (c2 := 0) (pc := 29) dX12_e_29 pl_12_204 rfl ⟨Nat.le_of_ble_eq_true rfl, Nat.le_of_ble_eq_true rfl⟩ rfl rfl rfl s0_142 (Nat.le_of_ble_eq_true rfl) (by omega) rfl rfl (pm_zc _) (hq sc _ (by omega)) (fun r10 M9 hq => ?_)
      refine fr_inVI (a := 142) (as := [(0, r10)]) (rest := []) (ls' := [(2, 142), (0, r10), (9, 0), (9, 0)]) (c1 := 0) (c2 := 0) (pc := 32) dX12_e_32 pl_12_211 rfl ⟨Nat.le_of_ble_eq_true rfl, Nat.le_of_ble_eq_true rfl⟩ rfl rfl rfl s0_142 (Nat.le_of_ble_eq_true rfl) (by omega) rfl rfl (pm_zc _) (hq sc _ (by omega)) (fun r12 M11 hq => ?_)
      refine fr_istore_n (ls2 := [(2, 142), (0, a1), (0, gI M 142 18), (0, r12)]) (pc := 35) dX12_e_35 rfl (Nat.le_of_ble_eq_true rfl) rfl ?_
      refine fr_iload_n (pc := 36) dX12_e_36 rfl rfl ?_
      obtain ⟨hz13, hq⟩ := hq
      exact fr_iret (pc := 37) dX12_e_37 (Or.inr (Or.inl ⟨rfl, hz13⟩)) hq
theorem k12_sum_r {h : Nat} {a1 : Int} {M : pm_M} {K : Int → pm_M → Prop} (hh : 22 ≤ h) (hq : k12_term (h - 1) a1 M (fun r2 M1 => k12_sum_11 h a1 (gI M 142 18) r2 M1 K)) : k12_sum h a1 M K := by
  intro sc d hd
  refine fr_aload_n (pc := 0) dX12_sum_0 rfl rfl ?_
  refine fr_getf (a := 142) (i := 18) (v := gI M 142 18) (t := 0) (pc := 1) dX12_sum_1 rfl pf_12_170 rfl s0_142 rfl rfl ?_
  refine fr_istore_n (ls2 := [(2, 142), (0, a1), (0, gI M 142 18), (9, 0)]) (pc := 4) dX12_sum_4 rfl (Nat.le_of_ble_eq_true rfl) rfl ?_
  refine fr_aload_n (pc := 5) dX12_sum_5 rfl rfl ?_
  refine fr_iload_n (pc := 6) dX12_sum_6 rfl rfl ?_
  refine fr_inVI (a := 142) (as := [(0, a1)]) (rest := []) (ls' := [(2, 142), (0, a1), (9, 0), (9, 0)]) (c1 := 0) (c2 := 0) (pc := 7) dX12_sum_7 pl_12_208 rfl ⟨Nat.le_of_ble_eq_true rfl, Nat.le_of_ble_eq_true rfl⟩ rfl rfl rfl s0_142 (Nat.le_of_ble_eq_true rfl) (by omega) rfl rfl (pm_zc _) (hq sc _ (by omega)) (fun r2 M1 hq => ?_)
  refine fr_istore_n (ls2 := [(2, 142), (0, a1), (0, gI M 142 18), (0, r2)]) (pc := 10) dX12_sum_10 rfl (Nat.le_of_ble_eq_true rfl) rfl ?_
  exact hq sc d hd
theorem k12_sum_11_r {h : Nat} {l1 l2 l3 : Int} {M : pm_M} {K : Int → pm_M → Prop} (hh : 22 ≤ h) (hq : (if l3 = 0 then ((l3 = 0 ∨ l3 = 1) ∧ K l3 M) else k12_isOf 0 1 M (fun r4 M3 => (if r4 = 0 then ((l3 = 0 ∨ l3 = 1) ∧ K l3 M3) else k12_joins l2 l1 M3 (fun r8 M7 => k12_term (h - 1) r8 M7 (fun r10 M9 => k12_sum_11 h l1 l2 r10 M9 K)))))) : k12_sum_11 h l1 l2 l3 M K := by
  intro sc d hd
  refine fr_iload_n (pc := 11) dX12_sum_11 rfl rfl ?_
  refine fr_ifc_eq (tg := 38) (pc := 12) dX12_sum_12 rfl hq (fun hc1 hq => ?_) (fun hc1 hq => ?_)
  · refine fr_iload_n (pc := 38) dX12_sum_38 rfl rfl ?_
    obtain ⟨hz2, hq⟩ := hq
    exact fr_iret (pc := 39) dX12_sum_39 (Or.inr (Or.inl ⟨rfl, hz2⟩)) hq
  · refine fr_aload_n (pc := 15) dX12_sum_15 rfl rfl ?_
    refine fr_iconst (pc := 16) dX12_sum_16 (by decide) ?_
    refine fr_iconst (pc := 17) dX12_sum_17 (by decide) ?_
    refine fr_inVI (a := 142) (as := [(0, 0), (0, 1)]) (rest := []) (ls' := [(2, 142), (0, 0), (0, 1)]) (c1 := 0) (c2 := 0) (pc := 18) dX12_sum_18 pl_12_200 rfl ⟨Nat.le_of_ble_eq_true rfl, Nat.le_of_ble_eq_true rfl⟩ rfl rfl rfl s0_142 (Nat.le_of_ble_eq_true rfl) (by omega) rfl rfl (pm_zc _) (hq sc _ (by omega)) (fun r4 M3 hq => ?_)
    refine fr_ifc_eq (tg := 38) (pc := 21) dX12_sum_21 rfl hq (fun hc5 hq => ?_) (fun hc5 hq => ?_)
    · refine fr_iload_n (pc := 38) dX12_sum_38 rfl rfl ?_
      obtain ⟨hz6, hq⟩ := hq
      exact fr_iret (pc := 39) dX12_sum_39 (Or.inr (Or.inl ⟨rfl, hz6⟩)) hq
    · refine fr_aload_n (pc := 24) dX12_sum_24 rfl rfl ?_
      refine fr_aload_n (pc := 25) dX12_sum_25 rfl rfl ?_
      refine fr_iload_n (pc := 26) dX12_sum_26 rfl rfl ?_
      refine fr_iload_n (pc := 27) dX12_sum_27 rfl rfl ?_
      refine fr_inVI (a := 142) (as := [(0, l2), (0, l1)]) (rest := [(2, 142)]) (ls' := [(2, 142), (0, l2), (0, l1), (9, 0)]) (c1 := 0) (c2 := 0) (pc := 28) dX12_sum_28 pl_12_204 rfl ⟨Nat.le_of_ble_eq_true rfl, Nat.le_of_ble_eq_true rfl⟩ rfl rfl rfl s0_142 (Nat.le_of_ble_eq_true rfl) (by omega) rfl rfl (pm_zc _) (hq sc _ (by omega)) (fun r8 M7 hq => ?_)
      refine fr_inVI (a := 142) (as := [(0, r8)]) (rest := []) (ls' := [(2, 142), (0, r8), (9, 0), (9, 0)]) (c1 := 0) (c2 := 0) (pc := 31) dX12_sum_31 pl_12_208 rfl ⟨Nat.le_of_ble_eq_true rfl, Nat.le_of_ble_eq_true rfl⟩ rfl rfl rfl s0_142 (Nat.le_of_ble_eq_true rfl) (by omega) rfl rfl (pm_zc _) (hq sc _ (by omega)) (fun r10 M9 hq => ?_)
      refine fr_istore_n (ls2 := [(2, 142), (0, l1), (0, l2), (0, r10)]) (pc := 34) dX12_sum_34 rfl (Nat.le_of_ble_eq_true rfl) rfl ?_
      refine fr_goto (tg := 11) (pc := 35) dX12_sum_35 rfl ?_
      exact hq sc d hd
theorem k12_term_r {h : Nat} {a1 : Int} {M : pm_M} {K : Int → pm_M → Prop} (hh : 22 ≤ h) (hq : k12_part (h - 1) a1 M (fun r2 M1 => k12_term_11 h a1 (gI M 142 18) r2 M1 K)) : k12_term h a1 M K := by
  intro sc d hd
  refine fr_aload_n (pc := 0) dX12_term_0 rfl rfl ?_
  refine fr_getf (a := 142) (i := 18) (v := gI M 142 18) (t := 0) (pc := 1) dX12_term_1 rfl pf_12_170 rfl s0_142 rfl rfl ?_
  refine fr_istore_n (ls2 := [(2, 142), (0, a1), (0, gI M 142 18), (9, 0)]) (pc := 4) dX12_term_4 rfl (Nat.le_of_ble_eq_true rfl) rfl ?_
  refine fr_aload_n (pc := 5) dX12_term_5 rfl rfl ?_
  refine fr_iload_n (pc := 6) dX12_term_6 rfl rfl ?_
  refine fr_inVI (a := 142) (as := [(0, a1)]) (rest := []) (ls' := [(2, 142), (0, a1), (9, 0), (9, 0), (9, 0), (9, 0)]) (c1 := 0) (c2 := 0) (pc := 7) dX12_term_7 pl_12_184 rfl ⟨Nat.le_of_ble_eq_true rfl, Nat.le_of_ble_eq_true rfl⟩ rfl rfl rfl s0_142 (Nat.le_of_ble_eq_true rfl) (by omega) rfl rfl (pm_zc _) (hq sc _ (by omega)) (fun r2 M1 hq => ?_)
  refine fr_istore_n (ls2 := [(2, 142), (0, a1), (0, gI M 142 18), (0, r2)]) (pc := 10) dX12_term_10 rfl (Nat.le_of_ble_eq_true rfl) rfl ?_
  exact hq sc d hd
theorem k12_term_11_r {h : Nat} {l1 l2 l3 : Int} {M : pm_M} {K : Int → pm_M → Prop} (hh : 22 ≤ h) (hq : (if l3 = 0 then ((l3 = 0 ∨ l3 = 1) ∧ K l3 M) else k12_isOf 2 4 M (fun r4 M3 => (if r4 = 0 then ((l3 = 0 ∨ l3 = 1) ∧ K l3 M3) else k12_joins l2 l1 M3 (fun r8 M7 => k12_part (h - 1) r8 M7 (fun r10 M9 => k12_term_11 h l1 l2 r10 M9 K)))))) : k12_term_11 h l1 l2 l3 M K := by
  intro sc d hd
  refine fr_iload_n (pc := 11) dX12_term_11 rfl rfl ?_
  refine fr_ifc_eq (tg := 38) (pc := 12) dX12_term_12 rfl hq (fun hc1 hq => ?_) (fun hc1 hq => ?_)
  · refine fr_iload_n (pc := 38) dX12_term_38 rfl rfl ?_
    obtain ⟨hz2, hq⟩ := hq
    exact fr_iret (pc := 39) dX12_term_39 (Or.inr (Or.inl ⟨rfl, hz2⟩)) hq
  · refine fr_aload_n (pc := 15) dX12_term_15 rfl rfl ?_
    refine fr_iconst (pc := 16) dX12_term_16 (by decide) ?_
    refine fr_iconst (pc := 17) dX12_term_17 (by decide) ?_
    refine fr_inVI (a := 142) (as := [(0, 2), (0, 4)]) (rest := []) (ls' := [(2, 142), (0, 2), (0, 4)]) (c1 := 0) (c2 := 0) (pc := 18) dX12_term_18 pl_12_200 rfl ⟨Nat.le_of_ble_eq_true rfl, Nat.le_of_ble_eq_true rfl⟩ rfl rfl rfl s0_142 (Nat.le_of_ble_eq_true rfl) (by omega) rfl rfl (pm_zc _) (hq sc _ (by omega)) (fun r4 M3 hq => ?_)
    refine fr_ifc_eq (tg := 38) (pc := 21) dX12_term_21 rfl hq (fun hc5 hq => ?_) (fun hc5 hq => ?_)
    · refine fr_iload_n (pc := 38) dX12_term_38 rfl rfl ?_
      obtain ⟨hz6, hq⟩ := hq
      exact fr_iret (pc := 39) dX12_term_39 (Or.inr (Or.inl ⟨rfl, hz6⟩)) hq
    · refine fr_aload_n (pc := 24) dX12_term_24 rfl rfl ?_
      refine fr_aload_n (pc := 25) dX12_term_25 rfl rfl ?_
      refine fr_iload_n (pc := 26) dX12_term_26 rfl rfl ?_
      refine fr_iload_n (pc := 27) dX12_term_27 rfl rfl ?_
      refine fr_inVI (a := 142) (as := [(0, l2), (0, l1)]) (rest := [(2, 142)]) (ls' := [(2, 142), (0, l2), (0, l1), (9, 0)]) (c1 := 0) (c2 := 0) (pc := 28) dX12_term_28 pl_12_204 rfl ⟨Nat.le_of_ble_eq_true rfl, Nat.le_of_ble_eq_true rfl⟩ rfl rfl rfl s0_142 (Nat.le_of_ble_eq_true rfl) (by omega) rfl rfl (pm_zc _) (hq sc _ (by omega)) (fun r8 M7 hq => ?_)
      refine fr_inVI (a := 142) (as := [(0, r8)]) (rest := []) (ls' := [(2, 142), (0, r8), (9, 0), (9, 0), (9, 0), (9, 0)]) (c1 := 0) (c2 := 0) (pc := 31) dX12_term_31 pl_12_184 rfl ⟨Nat.le_of_ble_eq_true rfl, Nat.le_of_ble_eq_true rfl⟩ rfl rfl rfl s0_142 (Nat.le_of_ble_eq_true rfl) (by omega) rfl rfl (pm_zc _) (hq sc _ (by omega)) (fun r10 M9 hq => ?_)
      refine fr_istore_n (ls2 := [(2, 142), (0, l1), (0, l2), (0, r10)]) (pc := 34) dX12_term_34 rfl (Nat.le_of_ble_eq_true rfl) rfl ?_
      refine fr_goto (tg := 11) (pc := 35) dX12_term_35 rfl ?_
      exact hq sc d hd
theorem k12_part_r {h : Nat} {a1 : Int} {M : pm_M} {K : Int → pm_M → Prop} (hh : 22 ≤ h) (hq : (if gI M 142 6 = 2 then k12_adds 4 (gI M 142 7) a1 M (fun r3 M2 => k12_go M2 (fun M4 => K 1 M4)) else k12_variable M (fun r7 M6 => (if r7 = (-1) then (if gI M6 142 6 = 3 then (if gI M6 142 7 = 45 then k12_part_73 h a1 M6 K else (if gI M6 142 7 = 40 then k12_part_73 h a1 M6 K else (if gI M6 142 8 = 0 then K 0 (upI M6 142 8 (w32 ((w32 (8 * (gI M6 142 4))) + 1))) else K 0 (upI M6 142 8 (gI M6 142 8))))) else (if gI M6 142 8 = 0 then K 0 (upI M6 142 8 (w32 ((w32 (8 * (gI M6 142 4))) + 1))) else K 0 (upI M6 142 8 (gI M6 142 8)))) else k12_adds 5 r7 a1 M6 (fun r15 M14 => k12_go M14 (fun M16 => K 1 M16)))))) : k12_part h a1 M K := by
  intro sc d hd
  refine fr_aload_n (pc := 0) dX12_part_0 rfl rfl ?_
  refine fr_getf (a := 142) (i := 6) (v := gI M 142 6) (t := 0) (pc := 1) dX12_part_1 rfl pf_12_144 rfl s0_142 rfl rfl ?_
  refine fr_iconst (pc := 4) dX12_part_4 (by decide) ?_
  refine fr_icm_ne (tg := 25) (pc := 5) dX12_part_5 rfl hq (fun hc1 hq => ?_) (fun hc1 hq => ?_)
  · refine fr_aload_n (pc := 8) dX12_part_8 rfl rfl ?_
    refine fr_iconst (pc := 9) dX12_part_9 (by decide) ?_
    refine fr_aload_n (pc := 10) dX12_part_10 rfl rfl ?_
    refine fr_getf (a := 142) (i := 7) (v := gI M 142 7) (t := 0) (pc := 11) dX12_part_11 rfl pf_12_151 rfl s0_142 rfl rfl ?_
    refine fr_iload_n (pc := 14) dX12_part_14 rfl rfl ?_
    refine fr_inVI (a := 142) (as := [(0, 4), (0, gI M 142 7), (0, a1)]) (rest := []) (ls' := [(2, 142), (0, 4), (0, gI M 142 7), (0, a1), (9, 0)]) (c1 := 0) (c2 := 0) (pc := 15) dX12_part_15 pl_12_173 rfl ⟨Nat.le_of_ble_eq_true rfl, Nat.le_of_ble_eq_true rfl⟩ rfl rfl rfl s0_142 (Nat.le_of_ble_eq_true rfl) (by omega) rfl rfl (pm_zc _) (hq sc _ (by omega)) (fun r3 M2 hq => ?_)
    refine fr_istore_n (ls2 := [(2, 142), (0, a1), (0, r3), (9, 0), (9, 0), (9, 0)]) (pc := 18) dX12_part_18 rfl (Nat.le_of_ble_eq_true rfl) rfl ?_
    refine fr_aload_n (pc := 19) dX12_part_19 rfl rfl ?_
    refine fr_inVV (a := 142) (as := []) (rest := []) (ls' := [(2, 142), (9, 0)]) (c1 := 0) (c2 := 0) (pc := 20) dX12_part_20 pl_12_167 rfl ⟨Nat.le_of_ble_eq_true rfl, Nat.le_of_ble_eq_true rfl⟩ rfl rfl rfl s0_142 (Nat.le_of_ble_eq_true rfl) (by omega) rfl rfl (pm_zc _) (hq sc _ (by omega)) (fun M4 hq => ?_)
    refine fr_iconst (pc := 23) dX12_part_23 (by decide) ?_
    exact fr_iret (pc := 24) dX12_part_24 (Or.inr (Or.inl ⟨rfl, Or.inr rfl⟩)) hq
  · refine fr_aload_n (pc := 25) dX12_part_25 rfl rfl ?_
    refine fr_inVI (a := 142) (as := []) (rest := []) (ls' := [(2, 142), (9, 0)]) (c1 := 0) (c2 := 0) (pc := 26) dX12_part_26 pl_12_177 rfl ⟨Nat.le_of_ble_eq_true rfl, Nat.le_of_ble_eq_true rfl⟩ rfl rfl rfl s0_142 (Nat.le_of_ble_eq_true rfl) (by omega) rfl rfl (pm_zc _) (hq sc _ (by omega)) (fun r7 M6 hq => ?_)
    refine fr_istore_n (ls2 := [(2, 142), (0, a1), (0, r7), (9, 0), (9, 0), (9, 0)]) (pc := 29) dX12_part_29 rfl (Nat.le_of_ble_eq_true rfl) rfl ?_
    refine fr_iload_n (pc := 30) dX12_part_30 rfl rfl ?_
    refine fr_iconst (pc := 31) dX12_part_31 (by decide) ?_
    refine fr_icm_eq (tg := 49) (pc := 32) dX12_part_32 rfl hq (fun hc8 hq => ?_) (fun hc8 hq => ?_)
    · refine fr_aload_n (pc := 49) dX12_part_49 rfl rfl ?_
      refine fr_bipush (pc := 50) dX12_part_50 (by decide) ?_
      refine fr_inVI (a := 142) (as := [(0, 45)]) (rest := []) (ls' := [(2, 142), (0, 45)]) (c1 := 0) (c2 := 0) (pc := 52) dX12_part_52 pl_12_161 rfl ⟨Nat.le_of_ble_eq_true rfl, Nat.le_of_ble_eq_true rfl⟩ rfl rfl rfl s0_142 (Nat.le_of_ble_eq_true rfl) (by omega) rfl rfl (pm_zc _) ?_ (fun y M' h => h)
      refine fr_aload_n (pc := 0) dX12_is_0 rfl rfl ?_
      refine fr_getf (a := 142) (i := 6) (v := gI M6 142 6) (t := 0) (pc := 1) dX12_is_1 rfl pf_12_144 rfl s0_142 rfl rfl ?_
      refine fr_iconst (pc := 4) dX12_is_4 (by decide) ?_
      refine fr_icm_ne (tg := 20) (pc := 5) dX12_is_5 rfl hq (fun hc9 hq => ?_) (fun hc9 hq => ?_)
      · refine fr_aload_n (pc := 8) dX12_is_8 rfl rfl ?_
        refine fr_getf (a := 142) (i := 7) (v := gI M6 142 7) (t := 0) (pc := 9) dX12_is_9 rfl pf_12_151 rfl s0_142 rfl rfl ?_
        refine fr_iload_n (pc := 12) dX12_is_12 rfl rfl ?_
        refine fr_icm_ne (tg := 20) (pc := 13) dX12_is_13 rfl hq (fun hc10 hq => ?_) (fun hc10 hq => ?_)
        · refine fr_iconst (pc := 16) dX12_is_16 (by decide) ?_
          refine fr_goto (tg := 21) (pc := 17) dX12_is_17 rfl ?_
          refine fr_iret (pc := 21) dX12_is_21 (Or.inr (Or.inl ⟨rfl, Or.inr rfl⟩)) ?_
          refine fr_ifcT (tg := 73) (pc := 55) dX12_part_55 rfl rfl ?_
          exact hq sc d hd (0, r7) pm_t0 (9, 0) pm_t9 (9, 0) pm_t9 (9, 0) pm_t9
        · refine fr_iconst (pc := 20) dX12_is_20 (by decide) ?_
          refine fr_iret (pc := 21) dX12_is_21 (Or.inr (Or.inl ⟨rfl, Or.inl rfl⟩)) ?_
          refine fr_ifcF (tg := 73) (pc := 55) dX12_part_55 rfl rfl ?_
          refine fr_aload_n (pc := 58) dX12_part_58 rfl rfl ?_
          refine fr_bipush (pc := 59) dX12_part_59 (by decide) ?_
          refine fr_inVI (a := 142) (as := [(0, 40)]) (rest := []) (ls' := [(2, 142), (0, 40)]) (c1 := 0) (c2 := 0) (pc := 61) dX12_part_61 pl_12_161 rfl ⟨Nat.le_of_ble_eq_true rfl, Nat.le_of_ble_eq_true rfl⟩ rfl rfl rfl s0_142 (Nat.le_of_ble_eq_true rfl) (by omega) rfl rfl (pm_zc _) ?_ (fun y M' h => h)
          refine fr_aload_n (pc := 0) dX12_is_0 rfl rfl ?_
          refine fr_getf (a := 142) (i := 6) (v := gI M6 142 6) (t := 0) (pc := 1) dX12_is_1 rfl pf_12_144 rfl s0_142 rfl rfl ?_
          refine fr_iconst (pc := 4) dX12_is_4 (by decide) ?_
          refine fr_icmF (tg := 20) (pc := 5) dX12_is_5 (decide_eq_false (fun z => z hc9)) rfl ?_
          refine fr_aload_n (pc := 8) dX12_is_8 rfl rfl ?_
          refine fr_getf (a := 142) (i := 7) (v := gI M6 142 7) (t := 0) (pc := 9) dX12_is_9 rfl pf_12_151 rfl s0_142 rfl rfl ?_
          refine fr_iload_n (pc := 12) dX12_is_12 rfl rfl ?_
          refine fr_icm_ne (tg := 20) (pc := 13) dX12_is_13 rfl hq (fun hc11 hq => ?_) (fun hc11 hq => ?_)
          · refine fr_iconst (pc := 16) dX12_is_16 (by decide) ?_
            refine fr_goto (tg := 21) (pc := 17) dX12_is_17 rfl ?_
            refine fr_iret (pc := 21) dX12_is_21 (Or.inr (Or.inl ⟨rfl, Or.inr rfl⟩)) ?_
            refine fr_ifcT (tg := 73) (pc := 64) dX12_part_64 rfl rfl ?_
            exact hq sc d hd (0, r7) pm_t0 (9, 0) pm_t9 (9, 0) pm_t9 (9, 0) pm_t9
          · refine fr_iconst (pc := 20) dX12_is_20 (by decide) ?_
            refine fr_iret (pc := 21) dX12_is_21 (Or.inr (Or.inl ⟨rfl, Or.inl rfl⟩)) ?_
            refine fr_ifcF (tg := 73) (pc := 64) dX12_part_64 rfl rfl ?_
            refine fr_aload_n (pc := 67) dX12_part_67 rfl rfl ?_
            refine fr_iconst (pc := 68) dX12_part_68 (by decide) ?_
            refine fr_inVI (a := 142) (as := [(0, 1)]) (rest := []) (ls' := [(2, 142), (0, 1)]) (c1 := 0) (c2 := 0) (pc := 69) dX12_part_69 pl_12_164 rfl ⟨Nat.le_of_ble_eq_true rfl, Nat.le_of_ble_eq_true rfl⟩ rfl rfl rfl s0_142 (Nat.le_of_ble_eq_true rfl) (by omega) rfl rfl (pm_zc _) ?_ (fun y M' h => h)
            refine fr_aload_n (pc := 0) dX12_bad_0 rfl rfl ?_
            refine fr_aload_n (pc := 1) dX12_bad_1 rfl rfl ?_
            refine fr_getf (a := 142) (i := 8) (v := gI M6 142 8) (t := 0) (pc := 2) dX12_bad_2 rfl pf_12_158 rfl s0_142 rfl rfl ?_
            refine fr_ifc_ne (tg := 20) (pc := 5) dX12_bad_5 rfl hq (fun hc12 hq => ?_) (fun hc12 hq => ?_)
            · refine fr_bipush (pc := 8) dX12_bad_8 (by decide) ?_
              refine fr_aload_n (pc := 10) dX12_bad_10 rfl rfl ?_
              refine fr_getf (a := 142) (i := 4) (v := gI M6 142 4) (t := 0) (pc := 11) dX12_bad_11 rfl pf_12_141 rfl s0_142 rfl rfl ?_
              refine fr_imul (z := w32 (8 * (gI M6 142 4))) (pc := 14) dX12_bad_14 rfl ?_
              refine fr_iload_n (pc := 15) dX12_bad_15 rfl rfl ?_
              refine fr_iadd (z := w32 ((w32 (8 * (gI M6 142 4))) + 1)) (pc := 16) dX12_bad_16 rfl ?_
              refine fr_goto (tg := 24) (pc := 17) dX12_bad_17 rfl ?_
              refine fr_put (a := 142) (i := 8) (pc := 24) dX12_bad_24 rfl pf_12_158 rfl s0_142 rfl rfl nf_142_8 rfl ?_
              refine fr_iconst (pc := 27) dX12_bad_27 (by decide) ?_
              refine fr_iret (pc := 28) dX12_bad_28 (Or.inr (Or.inl ⟨rfl, Or.inl rfl⟩)) ?_
              exact fr_iret (pc := 72) dX12_part_72 (Or.inr (Or.inl ⟨rfl, Or.inl rfl⟩)) hq
            · refine fr_aload_n (pc := 20) dX12_bad_20 rfl rfl ?_
              refine fr_getf (a := 142) (i := 8) (v := gI M6 142 8) (t := 0) (pc := 21) dX12_bad_21 rfl pf_12_158 rfl s0_142 rfl rfl ?_
              refine fr_put (a := 142) (i := 8) (pc := 24) dX12_bad_24 rfl pf_12_158 rfl s0_142 rfl rfl nf_142_8 rfl ?_
              refine fr_iconst (pc := 27) dX12_bad_27 (by decide) ?_
              refine fr_iret (pc := 28) dX12_bad_28 (Or.inr (Or.inl ⟨rfl, Or.inl rfl⟩)) ?_
              exact fr_iret (pc := 72) dX12_part_72 (Or.inr (Or.inl ⟨rfl, Or.inl rfl⟩)) hq
      · refine fr_iconst (pc := 20) dX12_is_20 (by decide) ?_
        refine fr_iret (pc := 21) dX12_is_21 (Or.inr (Or.inl ⟨rfl, Or.inl rfl⟩)) ?_
        refine fr_ifcF (tg := 73) (pc := 55) dX12_part_55 rfl rfl ?_
        refine fr_aload_n (pc := 58) dX12_part_58 rfl rfl ?_
        refine fr_bipush (pc := 59) dX12_part_59 (by decide) ?_
        refine fr_inVI (a := 142) (as := [(0, 40)]) (rest := []) (ls' := [(2, 142), (0, 40)]) (c1 := 0) (c2 := 0) (pc := 61) dX12_part_61 pl_12_161 rfl ⟨Nat.le_of_ble_eq_true rfl, Nat.le_of_ble_eq_true rfl⟩ rfl rfl rfl s0_142 (Nat.le_of_ble_eq_true rfl) (by omega) rfl rfl (pm_zc _) ?_ (fun y M' h => h)
        refine fr_aload_n (pc := 0) dX12_is_0 rfl rfl ?_
        refine fr_getf (a := 142) (i := 6) (v := gI M6 142 6) (t := 0) (pc := 1) dX12_is_1 rfl pf_12_144 rfl s0_142 rfl rfl ?_
        refine fr_iconst (pc := 4) dX12_is_4 (by decide) ?_
        refine fr_icmT (tg := 20) (pc := 5) dX12_is_5 (decide_eq_true hc9) rfl ?_
        refine fr_iconst (pc := 20) dX12_is_20 (by decide) ?_
        refine fr_iret (pc := 21) dX12_is_21 (Or.inr (Or.inl ⟨rfl, Or.inl rfl⟩)) ?_
        refine fr_ifcF (tg := 73) (pc := 64) dX12_part_64 rfl rfl ?_
        refine fr_aload_n (pc := 67) dX12_part_67 rfl rfl ?_
        refine fr_iconst (pc := 68) dX12_part_68 (by decide) ?_
        refine fr_inVI (a := 142) (as := [(0, 1)]) (rest := []) (ls' := [(2, 142), (0, 1)]) (c1 := 0) (c2 := 0) (pc := 69) dX12_part_69 pl_12_164 rfl ⟨Nat.le_of_ble_eq_true rfl, Nat.le_of_ble_eq_true rfl⟩ rfl rfl rfl s0_142 (Nat.le_of_ble_eq_true rfl) (by omega) rfl rfl (pm_zc _) ?_ (fun y M' h => h)
        refine fr_aload_n (pc := 0) dX12_bad_0 rfl rfl ?_
        refine fr_aload_n (pc := 1) dX12_bad_1 rfl rfl ?_
        refine fr_getf (a := 142) (i := 8) (v := gI M6 142 8) (t := 0) (pc := 2) dX12_bad_2 rfl pf_12_158 rfl s0_142 rfl rfl ?_
        refine fr_ifc_ne (tg := 20) (pc := 5) dX12_bad_5 rfl hq (fun hc13 hq => ?_) (fun hc13 hq => ?_)
        · refine fr_bipush (pc := 8) dX12_bad_8 (by decide) ?_
          refine fr_aload_n (pc := 10) dX12_bad_10 rfl rfl ?_
          refine fr_getf (a := 142) (i := 4) (v := gI M6 142 4) (t := 0) (pc := 11) dX12_bad_11 rfl pf_12_141 rfl s0_142 rfl rfl ?_
          refine fr_imul (z := w32 (8 * (gI M6 142 4))) (pc := 14) dX12_bad_14 rfl ?_
          refine fr_iload_n (pc := 15) dX12_bad_15 rfl rfl ?_
          refine fr_iadd (z := w32 ((w32 (8 * (gI M6 142 4))) + 1)) (pc := 16) dX12_bad_16 rfl ?_
          refine fr_goto (tg := 24) (pc := 17) dX12_bad_17 rfl ?_
          refine fr_put (a := 142) (i := 8) (pc := 24) dX12_bad_24 rfl pf_12_158 rfl s0_142 rfl rfl nf_142_8 rfl ?_
          refine fr_iconst (pc := 27) dX12_bad_27 (by decide) ?_
          refine fr_iret (pc := 28) dX12_bad_28 (Or.inr (Or.inl ⟨rfl, Or.inl rfl⟩)) ?_
          exact fr_iret (pc := 72) dX12_part_72 (Or.inr (Or.inl ⟨rfl, Or.inl rfl⟩)) hq
        · refine fr_aload_n (pc := 20) dX12_bad_20 rfl rfl ?_
          refine fr_getf (a := 142) (i := 8) (v := gI M6 142 8) (t := 0) (pc := 21) dX12_bad_21 rfl pf_12_158 rfl s0_142 rfl rfl ?_
          refine fr_put (a := 142) (i := 8) (pc := 24) dX12_bad_24 rfl pf_12_158 rfl s0_142 rfl rfl nf_142_8 rfl ?_
          refine fr_iconst (pc := 27) dX12_bad_27 (by decide) ?_
          refine fr_iret (pc := 28) dX12_bad_28 (Or.inr (Or.inl ⟨rfl, Or.inl rfl⟩)) ?_
          exact fr_iret (pc := 72) dX12_part_72 (Or.inr (Or.inl ⟨rfl, Or.inl rfl⟩)) hq
    · refine fr_aload_n (pc := 35) dX12_part_35 rfl rfl ?_
      refine fr_iconst (pc := 36) dX12_part_36 (by decide) ?_
      refine fr_iload_n (pc := 37) dX12_part_37 rfl rfl ?_
      refine fr_iload_n (pc := 38) dX12_part_38 rfl rfl ?_
      refine fr_inVI (a := 142) (as := [(0, 5), (0, r7), (0, a1)]) (rest := []) (ls' := [(2, 142), (0, 5), (0, r7), (0, a1), (9, 0)]) (c1 := 0) (c2 := 0) (pc := 39) dX12_part_39 pl_12_173 rfl ⟨Nat.le_of_ble_eq_true rfl, Nat.le_of_ble_eq_true rfl⟩ rfl rfl rfl s0_142 (Nat.le_of_ble_eq_true rfl) (by omega) rfl rfl (pm_zc _) (hq sc _ (by omega)) (fun r15 M14 hq => ?_)
      refine fr_istore_n (ls2 := [(2, 142), (0, a1), (0, r7), (0, r15), (9, 0), (9, 0)]) (pc := 42) dX12_part_42 rfl (Nat.le_of_ble_eq_true rfl) rfl ?_
      refine fr_aload_n (pc := 43) dX12_part_43 rfl rfl ?_
      refine fr_inVV (a := 142) (as := []) (rest := []) (ls' := [(2, 142), (9, 0)]) (c1 := 0) (c2 := 0) (pc := 44) dX12_part_44 pl_12_167 rfl ⟨Nat.le_of_ble_eq_true rfl, Nat.le_of_ble_eq_true rfl⟩ rfl rfl rfl s0_142 (Nat.le_of_ble_eq_true rfl) (by omega) rfl rfl (pm_zc _) (hq sc _ (by omega)) (fun M16 hq => ?_)
      refine fr_iconst (pc := 47) dX12_part_47 (by decide) ?_
      exact fr_iret (pc := 48) dX12_part_48 (Or.inr (Or.inl ⟨rfl, Or.inr rfl⟩)) hq
theorem k12_part_73_r {h : Nat} {l1 : Int} {M : pm_M} {K : Int → pm_M → Prop} (hh : 22 ≤ h) (hq : (if gI M 142 20 = 8 then (if gI M 142 8 = 0 then K 0 (upI M 142 8 (w32 ((w32 (8 * (gI M 142 4))) + 2))) else K 0 (upI M 142 8 (gI M 142 8))) else (if gI M 142 6 = 3 then (if gI M 142 7 = 45 then k12_go (upI M 142 20 (w32 ((gI M 142 20) + 1))) (fun M5 => k12_adds 6 0 l1 M5 (fun r8 M7 => ((0 ≤ w32 (100 + r8) ∧ w32 (100 + r8) < 800) ∧ k12_part (h - 1) r8 (upI M7 148 (w32 (100 + r8)) (gI M7 142 18)) (fun r11 M10 => ((r11 = 0 ∨ r11 = 1) ∧ K r11 (upI M10 142 20 (w32 ((gI M10 142 20) - 1)))))))) else k12_go (upI M 142 20 (w32 ((gI M 142 20) + 1))) (fun M13 => k12_e (h - 1) l1 M13 (fun r16 M15 => (if r16 = 0 then K 0 (upI M15 142 20 (w32 ((gI M15 142 20) - 1))) else k12_sign 41 M15 (fun r19 M18 => (if r19 = 0 then K 0 (upI M18 142 20 (w32 ((gI M18 142 20) - 1))) else K 1 (upI M18 142 20 (w32 ((gI M18 142 20) - 1))))))))) else k12_go (upI M 142 20 (w32 ((gI M 142 20) + 1))) (fun M21 => k12_e (h - 1) l1 M21 (fun r24 M23 => (if r24 = 0 then K 0 (upI M23 142 20 (w32 ((gI M23 142 20) - 1))) else k12_sign 41 M23 (fun r27 M26 => (if r27 = 0 then K 0 (upI M26 142 20 (w32 ((gI M26 142 20) - 1))) else K 1 (upI M26 142 20 (w32 ((gI M26 142 20) - 1))))))))))) : k12_part_73 h l1 M K := by
  intro sc d hd z2 hz2 z3 hz3 z4 hz4 z5 hz5
  refine fr_aload_n (pc := 73) dX12_part_73 rfl rfl ?_
  refine fr_getf (a := 142) (i := 20) (v := gI M 142 20) (t := 0) (pc := 74) dX12_part_74 rfl pf_12_181 rfl s0_142 rfl rfl ?_
  refine fr_bipush (pc := 77) dX12_part_77 (by decide) ?_
  refine fr_icm_ne (tg := 88) (pc := 79) dX12_part_79 rfl hq (fun hc1 hq => ?_) (fun hc1 hq => ?_)
  · refine fr_aload_n (pc := 82) dX12_part_82 rfl rfl ?_
    refine fr_iconst (pc := 83) dX12_part_83 (by decide) ?_
    refine fr_inVI (a := 142) (as := [(0, 2)]) (rest := []) (ls' := [(2, 142), (0, 2)]) (c1 := 0) (c2 := 0) (pc := 84) dX12_part_84 pl_12_164 rfl ⟨Nat.le_of_ble_eq_true rfl, Nat.le_of_ble_eq_true rfl⟩ rfl rfl rfl s0_142 (Nat.le_of_ble_eq_true rfl) (by omega) rfl rfl (pm_zc _) ?_ (fun y M' h => h)
    refine fr_aload_n (pc := 0) dX12_bad_0 rfl rfl ?_
    refine fr_aload_n (pc := 1) dX12_bad_1 rfl rfl ?_
    refine fr_getf (a := 142) (i := 8) (v := gI M 142 8) (t := 0) (pc := 2) dX12_bad_2 rfl pf_12_158 rfl s0_142 rfl rfl ?_
    refine fr_ifc_ne (tg := 20) (pc := 5) dX12_bad_5 rfl hq (fun hc2 hq => ?_) (fun hc2 hq => ?_)
    · refine fr_bipush (pc := 8) dX12_bad_8 (by decide) ?_
      refine fr_aload_n (pc := 10) dX12_bad_10 rfl rfl ?_
      refine fr_getf (a := 142) (i := 4) (v := gI M 142 4) (t := 0) (pc := 11) dX12_bad_11 rfl pf_12_141 rfl s0_142 rfl rfl ?_
      refine fr_imul (z := w32 (8 * (gI M 142 4))) (pc := 14) dX12_bad_14 rfl ?_
      refine fr_iload_n (pc := 15) dX12_bad_15 rfl rfl ?_
      refine fr_iadd (z := w32 ((w32 (8 * (gI M 142 4))) + 2)) (pc := 16) dX12_bad_16 rfl ?_
      refine fr_goto (tg := 24) (pc := 17) dX12_bad_17 rfl ?_
      refine fr_put (a := 142) (i := 8) (pc := 24) dX12_bad_24 rfl pf_12_158 rfl s0_142 rfl rfl nf_142_8 rfl ?_
      refine fr_iconst (pc := 27) dX12_bad_27 (by decide) ?_
      refine fr_iret (pc := 28) dX12_bad_28 (Or.inr (Or.inl ⟨rfl, Or.inl rfl⟩)) ?_
      exact fr_iret (pc := 87) dX12_part_87 (Or.inr (Or.inl ⟨rfl, Or.inl rfl⟩)) hq
    · refine fr_aload_n (pc := 20) dX12_bad_20 rfl rfl ?_
      refine fr_getf (a := 142) (i := 8) (v := gI M 142 8) (t := 0) (pc := 21) dX12_bad_21 rfl pf_12_158 rfl s0_142 rfl rfl ?_
      refine fr_put (a := 142) (i := 8) (pc := 24) dX12_bad_24 rfl pf_12_158 rfl s0_142 rfl rfl nf_142_8 rfl ?_
      refine fr_iconst (pc := 27) dX12_bad_27 (by decide) ?_
      refine fr_iret (pc := 28) dX12_bad_28 (Or.inr (Or.inl ⟨rfl, Or.inl rfl⟩)) ?_
      exact fr_iret (pc := 87) dX12_part_87 (Or.inr (Or.inl ⟨rfl, Or.inl rfl⟩)) hq
  · refine fr_aload_n (pc := 88) dX12_part_88 rfl rfl ?_
    refine fr_dup (pc := 89) dX12_part_89 pm_t2 ?_
    refine fr_getf (a := 142) (i := 20) (v := gI M 142 20) (t := 0) (pc := 90) dX12_part_90 rfl pf_12_181 rfl s0_142 rfl rfl ?_
    refine fr_iconst (pc := 93) dX12_part_93 (by decide) ?_
    refine fr_iadd (z := w32 ((gI M 142 20) + 1)) (pc := 94) dX12_part_94 rfl ?_
    refine fr_put (a := 142) (i := 20) (pc := 95) dX12_part_95 rfl pf_12_181 rfl s0_142 rfl rfl nf_142_20 rfl ?_
    refine fr_aload_n (pc := 98) dX12_part_98 rfl rfl ?_
    refine fr_bipush (pc := 99) dX12_part_99 (by decide) ?_
    refine fr_inVI (a := 142) (as := [(0, 45)]) (rest := []) (ls' := [(2, 142), (0, 45)]) (c1 := 0) (c2 := 0) (pc := 101) dX12_part_101 pl_12_161 rfl ⟨Nat.le_of_ble_eq_true rfl, Nat.le_of_ble_eq_true rfl⟩ rfl rfl rfl s0_142 (Nat.le_of_ble_eq_true rfl) (by omega) rfl rfl (pm_zc _) ?_ (fun y M' h => h)
    refine fr_aload_n (pc := 0) dX12_is_0 rfl rfl ?_
    refine fr_getf (a := 142) (i := 6) (v := gI M 142 6) (t := 0) (pc := 1) dX12_is_1 rfl pf_12_144 rfl s0_142 rfl (gI_nf _ _ (by decide)) ?_
    refine fr_iconst (pc := 4) dX12_is_4 (by decide) ?_
    refine fr_icm_ne (tg := 20) (pc := 5) dX12_is_5 rfl hq (fun hc3 hq => ?_) (fun hc3 hq => ?_)
    · refine fr_aload_n (pc := 8) dX12_is_8 rfl rfl ?_
      refine fr_getf (a := 142) (i := 7) (v := gI M 142 7) (t := 0) (pc := 9) dX12_is_9 rfl pf_12_151 rfl s0_142 rfl (gI_nf _ _ (by decide)) ?_
      refine fr_iload_n (pc := 12) dX12_is_12 rfl rfl ?_
      refine fr_icm_ne (tg := 20) (pc := 13) dX12_is_13 rfl hq (fun hc4 hq => ?_) (fun hc4 hq => ?_)
      · refine fr_iconst (pc := 16) dX12_is_16 (by decide) ?_
        refine fr_goto (tg := 21) (pc := 17) dX12_is_17 rfl ?_
        refine fr_iret (pc := 21) dX12_is_21 (Or.inr (Or.inl ⟨rfl, Or.inr rfl⟩)) ?_
        refine fr_istore_n (ls2 := [(2, 142), (0, l1), z2, (0, 1), z4, z5]) (pc := 104) dX12_part_104 rfl (Nat.le_of_ble_eq_true rfl) (pm_st1z hz2 rfl rfl) ?_
        refine fr_aload_n (pc := 105) dX12_part_105 rfl rfl ?_
        refine fr_inVV (a := 142) (as := []) (rest := []) (ls' := [(2, 142), (9, 0)]) (c1 := 0) (c2 := 0) (pc := 106) dX12_part_106 pl_12_167 rfl ⟨Nat.le_of_ble_eq_true rfl, Nat.le_of_ble_eq_true rfl⟩ rfl rfl rfl s0_142 (Nat.le_of_ble_eq_true rfl) (by omega) rfl rfl (pm_zc _) (hq sc _ (by omega)) (fun M5 hq => ?_)
        refine fr_iload_n (pc := 109) dX12_part_109 rfl rfl ?_
        refine fr_ifcF (tg := 148) (pc := 110) dX12_part_110 rfl rfl ?_
        refine fr_aload_n (pc := 113) dX12_part_113 rfl rfl ?_
        refine fr_bipush (pc := 114) dX12_part_114 (by decide) ?_
        refine fr_iconst (pc := 116) dX12_part_116 (by decide) ?_
        refine fr_iload_n (pc := 117) dX12_part_117 rfl rfl ?_
        refine fr_inVI (a := 142) (as := [(0, 6), (0, 0), (0, l1)]) (rest := []) (ls' := [(2, 142), (0, 6), (0, 0), (0, l1), (9, 0)]) (c1 := 0) (c2 := 0) (pc := 118) dX12_part_118 pl_12_173 rfl ⟨Nat.le_of_ble_eq_true rfl, Nat.le_of_ble_eq_true rfl⟩ rfl rfl rfl s0_142 (Nat.le_of_ble_eq_true rfl) (by omega) rfl rfl (pm_zc _) (hq sc _ (by omega)) (fun r8 M7 hq => ?_)
        refine fr_istore (ls2 := [(2, 142), (0, l1), z2, (0, 1), z4, (0, r8)]) (pc := 121) dX12_part_121 rfl (Nat.le_of_ble_eq_true rfl) (pm_st1z hz4 rfl rfl) ?_
        refine fr_aload_n (pc := 123) dX12_part_123 rfl rfl ?_
        refine fr_getr (a := 142) (pc := 124) dX12_part_124 rfl pf_12_26 s0_142 rfl rf_142_13 ?_
        refine fr_bipush (pc := 127) dX12_part_127 (by decide) ?_
        refine fr_iload (pc := 129) dX12_part_129 rfl rfl ?_
        refine fr_iadd (z := w32 (100 + r8)) (pc := 131) dX12_part_131 rfl ?_
        refine fr_aload_n (pc := 132) dX12_part_132 rfl rfl ?_
        refine fr_getf (a := 142) (i := 18) (v := gI M7 142 18) (t := 0) (pc := 133) dX12_part_133 rfl pf_12_170 rfl s0_142 rfl rfl ?_
        obtain ⟨hb9, hq⟩ := hq
        refine fr_iastore (a := 148) (pc := 136) dX12_part_136 rfl s0_148 hb9 nr_148 ?_
        refine fr_aload_n (pc := 137) dX12_part_137 rfl rfl ?_
        refine fr_iload (pc := 138) dX12_part_138 rfl rfl ?_
        refine fr_inVI (a := 142) (as := [(0, r8)]) (rest := []) (ls' := [(2, 142), (0, r8), (9, 0), (9, 0), (9, 0), (9, 0)]) (c1 := 0) (c2 := 0) (pc := 140) dX12_part_140 pl_12_184 rfl ⟨Nat.le_of_ble_eq_true rfl, Nat.le_of_ble_eq_true rfl⟩ rfl rfl rfl s0_142 (Nat.le_of_ble_eq_true rfl) (by omega) rfl rfl (pm_zc _) (hq sc _ (by omega)) (fun r11 M10 hq => ?_)
        refine fr_istore (ls2 := [(2, 142), (0, l1), z2, (0, 1), (0, r11), (0, r8)]) (pc := 143) dX12_part_143 rfl (Nat.le_of_ble_eq_true rfl) rfl ?_
        refine fr_goto (tg := 172) (pc := 145) dX12_part_145 rfl ?_
        refine fr_aload_n (pc := 172) dX12_part_172 rfl rfl ?_
        refine fr_dup (pc := 173) dX12_part_173 pm_t2 ?_
        refine fr_getf (a := 142) (i := 20) (v := gI M10 142 20) (t := 0) (pc := 174) dX12_part_174 rfl pf_12_181 rfl s0_142 rfl rfl ?_
        refine fr_iconst (pc := 177) dX12_part_177 (by decide) ?_
        refine fr_isub (z := w32 ((gI M10 142 20) - 1)) (pc := 178) dX12_part_178 rfl ?_
        refine fr_put (a := 142) (i := 20) (pc := 179) dX12_part_179 rfl pf_12_181 rfl s0_142 rfl rfl nf_142_20 rfl ?_
        refine fr_iload (pc := 182) dX12_part_182 rfl rfl ?_
        obtain ⟨hz12, hq⟩ := hq
        exact fr_iret (pc := 184) dX12_part_184 (Or.inr (Or.inl ⟨rfl, hz12⟩)) hq
      · refine fr_iconst (pc := 20) dX12_is_20 (by decide) ?_
        refine fr_iret (pc := 21) dX12_is_21 (Or.inr (Or.inl ⟨rfl, Or.inl rfl⟩)) ?_
        refine fr_istore_n (ls2 := [(2, 142), (0, l1), z2, (0, 0), z4, z5]) (pc := 104) dX12_part_104 rfl (Nat.le_of_ble_eq_true rfl) (pm_st1z hz2 rfl rfl) ?_
        refine fr_aload_n (pc := 105) dX12_part_105 rfl rfl ?_
        refine fr_inVV (a := 142) (as := []) (rest := []) (ls' := [(2, 142), (9, 0)]) (c1 := 0) (c2 := 0) (pc := 106) dX12_part_106 pl_12_167 rfl ⟨Nat.le_of_ble_eq_true rfl, Nat.le_of_ble_eq_true rfl⟩ rfl rfl rfl s0_142 (Nat.le_of_ble_eq_true rfl) (by omega) rfl rfl (pm_zc _) (hq sc _ (by omega)) (fun M13 hq => ?_)
        refine fr_iload_n (pc := 109) dX12_part_109 rfl rfl ?_
        refine fr_ifcT (tg := 148) (pc := 110) dX12_part_110 rfl rfl ?_
        refine fr_aload_n (pc := 148) dX12_part_148 rfl rfl ?_
        refine fr_iload_n (pc := 149) dX12_part_149 rfl rfl ?_
        refine fr_inVI (a := 142) (as := [(0, l1)]) (rest := []) (ls' := [(2, 142), (0, l1), (9, 0), (9, 0)]) (c1 := 0) (c2 := 0) (pc := 150) dX12_part_150 pl_12_187 rfl ⟨Nat.le_of_ble_eq_true rfl, Nat.le_of_ble_eq_true rfl⟩ rfl rfl rfl s0_142 (Nat.le_of_ble_eq_true rfl) (by omega) rfl rfl (pm_zc _) (hq sc _ (by omega)) (fun r16 M15 hq => ?_)
        refine fr_ifc_eq (tg := 169) (pc := 153) dX12_part_153 rfl hq (fun hc17 hq => ?_) (fun hc17 hq => ?_)
        · refine fr_iconst (pc := 169) dX12_part_169 (by decide) ?_
          refine fr_istore (ls2 := [(2, 142), (0, l1), z2, (0, 0), (0, 0), z5]) (pc := 170) dX12_part_170 rfl (Nat.le_of_ble_eq_true rfl) rfl ?_
          refine fr_aload_n (pc := 172) dX12_part_172 rfl rfl ?_
          refine fr_dup (pc := 173) dX12_part_173 pm_t2 ?_
          refine fr_getf (a := 142) (i := 20) (v := gI M15 142 20) (t := 0) (pc := 174) dX12_part_174 rfl pf_12_181 rfl s0_142 rfl rfl ?_
          refine fr_iconst (pc := 177) dX12_part_177 (by decide) ?_
          refine fr_isub (z := w32 ((gI M15 142 20) - 1)) (pc := 178) dX12_part_178 rfl ?_
          refine fr_put (a := 142) (i := 20) (pc := 179) dX12_part_179 rfl pf_12_181 rfl s0_142 rfl rfl nf_142_20 rfl ?_
          refine fr_iload (pc := 182) dX12_part_182 rfl rfl ?_
          exact fr_iret (pc := 184) dX12_part_184 (Or.inr (Or.inl ⟨rfl, Or.inl rfl⟩)) hq
        · refine fr_aload_n (pc := 156) dX12_part_156 rfl rfl ?_
          refine fr_bipush (pc := 157) dX12_part_157 (by decide) ?_
          refine fr_inVI (a := 142) (as := [(0, 41)]) (rest := []) (ls' := [(2, 142), (0, 41)]) (c1 := 0) (c2 := 0) (pc := 159) dX12_part_159 pl_12_190 rfl ⟨Nat.le_of_ble_eq_true rfl, Nat.le_of_ble_eq_true rfl⟩ rfl rfl rfl s0_142 (Nat.le_of_ble_eq_true rfl) (by omega) rfl rfl (pm_zc _) (hq sc _ (by omega)) (fun r19 M18 hq => ?_)
          refine fr_ifc_eq (tg := 169) (pc := 162) dX12_part_162 rfl hq (fun hc20 hq => ?_) (fun hc20 hq => ?_)
          · refine fr_iconst (pc := 169) dX12_part_169 (by decide) ?_
            refine fr_istore (ls2 := [(2, 142), (0, l1), z2, (0, 0), (0, 0), z5]) (pc := 170) dX12_part_170 rfl (Nat.le_of_ble_eq_true rfl) rfl ?_
            refine fr_aload_n (pc := 172) dX12_part_172 rfl rfl ?_
            refine fr_dup (pc := 173) dX12_part_173 pm_t2 ?_
            refine fr_getf (a := 142) (i := 20) (v := gI M18 142 20) (t := 0) (pc := 174) dX12_part_174 rfl pf_12_181 rfl s0_142 rfl rfl ?_
            refine fr_iconst (pc := 177) dX12_part_177 (by decide) ?_
            refine fr_isub (z := w32 ((gI M18 142 20) - 1)) (pc := 178) dX12_part_178 rfl ?_
            refine fr_put (a := 142) (i := 20) (pc := 179) dX12_part_179 rfl pf_12_181 rfl s0_142 rfl rfl nf_142_20 rfl ?_
            refine fr_iload (pc := 182) dX12_part_182 rfl rfl ?_
            exact fr_iret (pc := 184) dX12_part_184 (Or.inr (Or.inl ⟨rfl, Or.inl rfl⟩)) hq
          · refine fr_iconst (pc := 165) dX12_part_165 (by decide) ?_
            refine fr_goto (tg := 170) (pc := 166) dX12_part_166 rfl ?_
            refine fr_istore (ls2 := [(2, 142), (0, l1), z2, (0, 0), (0, 1), z5]) (pc := 170) dX12_part_170 rfl (Nat.le_of_ble_eq_true rfl) rfl ?_
            refine fr_aload_n (pc := 172) dX12_part_172 rfl rfl ?_
            refine fr_dup (pc := 173) dX12_part_173 pm_t2 ?_
            refine fr_getf (a := 142) (i := 20) (v := gI M18 142 20) (t := 0) (pc := 174) dX12_part_174 rfl pf_12_181 rfl s0_142 rfl rfl ?_
            refine fr_iconst (pc := 177) dX12_part_177 (by decide) ?_
            refine fr_isub (z := w32 ((gI M18 142 20) - 1)) (pc := 178) dX12_part_178 rfl ?_
            refine fr_put (a := 142) (i := 20) (pc := 179) dX12_part_179 rfl pf_12_181 rfl s0_142 rfl rfl nf_142_20 rfl ?_
            refine fr_iload (pc := 182) dX12_part_182 rfl rfl ?_
            exact fr_iret (pc := 184) dX12_part_184 (Or.inr (Or.inl ⟨rfl, Or.inr rfl⟩)) hq
    · refine fr_iconst (pc := 20) dX12_is_20 (by decide) ?_
      refine fr_iret (pc := 21) dX12_is_21 (Or.inr (Or.inl ⟨rfl, Or.inl rfl⟩)) ?_
      refine fr_istore_n (ls2 := [(2, 142), (0, l1), z2, (0, 0), z4, z5]) (pc := 104) dX12_part_104 rfl (Nat.le_of_ble_eq_true rfl) (pm_st1z hz2 rfl rfl) ?_
      refine fr_aload_n (pc := 105) dX12_part_105 rfl rfl ?_
      refine fr_inVV (a := 142) (as := []) (rest := []) (ls' := [(2, 142), (9, 0)]) (c1 := 0) (c2 := 0) (pc := 106) dX12_part_106 pl_12_167 rfl ⟨Nat.le_of_ble_eq_true rfl, Nat.le_of_ble_eq_true rfl⟩ rfl rfl rfl s0_142 (Nat.le_of_ble_eq_true rfl) (by omega) rfl rfl (pm_zc _) (hq sc _ (by omega)) (fun M21 hq => ?_)
      refine fr_iload_n (pc := 109) dX12_part_109 rfl rfl ?_
      refine fr_ifcT (tg := 148) (pc := 110) dX12_part_110 rfl rfl ?_
      refine fr_aload_n (pc := 148) dX12_part_148 rfl rfl ?_
      refine fr_iload_n (pc := 149) dX12_part_149 rfl rfl ?_
      refine fr_inVI (a := 142) (as := [(0, l1)]) (rest := []) (ls' := [(2, 142), (0, l1), (9, 0), (9, 0)]) (c1 := 0) (c2 := 0) (pc := 150) dX12_part_150 pl_12_187 rfl ⟨Nat.le_of_ble_eq_true rfl, Nat.le_of_ble_eq_true rfl⟩ rfl rfl rfl s0_142 (Nat.le_of_ble_eq_true rfl) (by omega) rfl rfl (pm_zc _) (hq sc _ (by omega)) (fun r24 M23 hq => ?_)
      refine fr_ifc_eq (tg := 169) (pc := 153) dX12_part_153 rfl hq (fun hc25 hq => ?_) (fun hc25 hq => ?_)
      · refine fr_iconst (pc := 169) dX12_part_169 (by decide) ?_
        refine fr_istore (ls2 := [(2, 142), (0, l1), z2, (0, 0), (0, 0), z5]) (pc := 170) dX12_part_170 rfl (Nat.le_of_ble_eq_true rfl) rfl ?_
        refine fr_aload_n (pc := 172) dX12_part_172 rfl rfl ?_
        refine fr_dup (pc := 173) dX12_part_173 pm_t2 ?_
        refine fr_getf (a := 142) (i := 20) (v := gI M23 142 20) (t := 0) (pc := 174) dX12_part_174 rfl pf_12_181 rfl s0_142 rfl rfl ?_
        refine fr_iconst (pc := 177) dX12_part_177 (by decide) ?_
        refine fr_isub (z := w32 ((gI M23 142 20) - 1)) (pc := 178) dX12_part_178 rfl ?_
        refine fr_put (a := 142) (i := 20) (pc := 179) dX12_part_179 rfl pf_12_181 rfl s0_142 rfl rfl nf_142_20 rfl ?_
        refine fr_iload (pc := 182) dX12_part_182 rfl rfl ?_
        exact fr_iret (pc := 184) dX12_part_184 (Or.inr (Or.inl ⟨rfl, Or.inl rfl⟩)) hq
      · refine fr_aload_n (pc := 156) dX12_part_156 rfl rfl ?_
        refine fr_bipush (pc := 157) dX12_part_157 (by decide) ?_
        refine fr_inVI (a := 142) (as := [(0, 41)]) (rest := []) (ls' := [(2, 142), (0, 41)]) (c1 := 0) (c2 := 0) (pc := 159) dX12_part_159 pl_12_190 rfl ⟨Nat.le_of_ble_eq_true rfl, Nat.le_of_ble_eq_true rfl⟩ rfl rfl rfl s0_142 (Nat.le_of_ble_eq_true rfl) (by omega) rfl rfl (pm_zc _) (hq sc _ (by omega)) (fun r27 M26 hq => ?_)
        refine fr_ifc_eq (tg := 169) (pc := 162) dX12_part_162 rfl hq (fun hc28 hq => ?_) (fun hc28 hq => ?_)
        · refine fr_iconst (pc := 169) dX12_part_169 (by decide) ?_
          refine fr_istore (ls2 := [(2, 142), (0, l1), z2, (0, 0), (0, 0), z5]) (pc := 170) dX12_part_170 rfl (Nat.le_of_ble_eq_true rfl) rfl ?_
          refine fr_aload_n (pc := 172) dX12_part_172 rfl rfl ?_
          refine fr_dup (pc := 173) dX12_part_173 pm_t2 ?_
          refine fr_getf (a := 142) (i := 20) (v := gI M26 142 20) (t := 0) (pc := 174) dX12_part_174 rfl pf_12_181 rfl s0_142 rfl rfl ?_
          refine fr_iconst (pc := 177) dX12_part_177 (by decide) ?_
          refine fr_isub (z := w32 ((gI M26 142 20) - 1)) (pc := 178) dX12_part_178 rfl ?_
          refine fr_put (a := 142) (i := 20) (pc := 179) dX12_part_179 rfl pf_12_181 rfl s0_142 rfl rfl nf_142_20 rfl ?_
          refine fr_iload (pc := 182) dX12_part_182 rfl rfl ?_
          exact fr_iret (pc := 184) dX12_part_184 (Or.inr (Or.inl ⟨rfl, Or.inl rfl⟩)) hq
        · refine fr_iconst (pc := 165) dX12_part_165 (by decide) ?_
          refine fr_goto (tg := 170) (pc := 166) dX12_part_166 rfl ?_
          refine fr_istore (ls2 := [(2, 142), (0, l1), z2, (0, 0), (0, 1), z5]) (pc := 170) dX12_part_170 rfl (Nat.le_of_ble_eq_true rfl) rfl ?_
          refine fr_aload_n (pc := 172) dX12_part_172 rfl rfl ?_
          refine fr_dup (pc := 173) dX12_part_173 pm_t2 ?_
          refine fr_getf (a := 142) (i := 20) (v := gI M26 142 20) (t := 0) (pc := 174) dX12_part_174 rfl pf_12_181 rfl s0_142 rfl rfl ?_
          refine fr_iconst (pc := 177) dX12_part_177 (by decide) ?_
          refine fr_isub (z := w32 ((gI M26 142 20) - 1)) (pc := 178) dX12_part_178 rfl ?_
          refine fr_put (a := 142) (i := 20) (pc := 179) dX12_part_179 rfl pf_12_181 rfl s0_142 rfl rfl nf_142_20 rfl ?_
          refine fr_iload (pc := 182) dX12_part_182 rfl rfl ?_
          exact fr_iret (pc := 184) dX12_part_184 (Or.inr (Or.inl ⟨rfl, Or.inr rfl⟩)) hq
theorem k12_isOf_r {a1 a2 : Int} {M : pm_M} {K : Int → pm_M → Prop} (hq : (if gI M 142 6 = 3 then k12_signOf (gI M 142 7) M (fun r3 M2 => (if r3 < a1 then K 0 M2 else (if r3 ≤ a2 then K 1 M2 else K 0 M2))) else K 0 M)) : k12_isOf a1 a2 M K := by
  intro sc d hd
  refine fr_aload_n (pc := 0) dX12_isOf_0 rfl rfl ?_
  refine fr_getf (a := 142) (i := 6) (v := gI M 142 6) (t := 0) (pc := 1) dX12_isOf_1 rfl pf_12_144 rfl s0_142 rfl rfl ?_
  refine fr_iconst (pc := 4) dX12_isOf_4 (by decide) ?_
  refine fr_icm_ne (tg := 27) (pc := 5) dX12_isOf_5 rfl hq (fun hc1 hq => ?_) (fun hc1 hq => ?_)
  · refine fr_aload_n (pc := 8) dX12_isOf_8 rfl rfl ?_
    refine fr_getf (a := 142) (i := 7) (v := gI M 142 7) (t := 0) (pc := 9) dX12_isOf_9 rfl pf_12_151 rfl s0_142 rfl rfl ?_
    refine fr_inSI (as := [(0, gI M 142 7)]) (rest := []) (ls' := [(0, gI M 142 7)]) (c1 := 0) (c2 := 0) (pc := 12) dX12_isOf_12 pl_12_193 rfl ⟨Nat.le_of_ble_eq_true rfl, Nat.le_of_ble_eq_true rfl⟩ rfl rfl  (by omega) rfl rfl (pm_zc _) (hq sc _ (by omega)) (fun r3 M2 hq => ?_)
    refine fr_iload_n (pc := 15) dX12_isOf_15 rfl rfl ?_
    refine fr_iload_n (pc := 16) dX12_isOf_16 rfl rfl ?_
    refine fr_inSI (as := [(0, r3), (0, a1), (0, a2)]) (rest := []) (ls' := [(0, r3), (0, a1), (0, a2)]) (c1 := 0) (c2 := 0) (pc := 17) dX12_isOf_17 pl_12_147 rfl ⟨Nat.le_of_ble_eq_true rfl, Nat.le_of_ble_eq_true rfl⟩ rfl rfl  (by omega) rfl rfl (pm_zc _) ?_ (fun y M' h => h)
    refine fr_iload_n (pc := 0) dX12_within_0 rfl rfl ?_
    refine fr_iload_n (pc := 1) dX12_within_1 rfl rfl ?_
    refine fr_icm_lt (tg := 14) (pc := 2) dX12_within_2 rfl hq (fun hc4 hq => ?_) (fun hc4 hq => ?_)
    · refine fr_iconst (pc := 14) dX12_within_14 (by decide) ?_
      refine fr_iret (pc := 15) dX12_within_15 (Or.inr (Or.inl ⟨rfl, Or.inl rfl⟩)) ?_
      refine fr_ifcT (tg := 27) (pc := 20) dX12_isOf_20 rfl rfl ?_
      refine fr_iconst (pc := 27) dX12_isOf_27 (by decide) ?_
      exact fr_iret (pc := 28) dX12_isOf_28 (Or.inr (Or.inl ⟨rfl, Or.inl rfl⟩)) hq
    · refine fr_iload_n (pc := 5) dX12_within_5 rfl rfl ?_
      refine fr_iload_n (pc := 6) dX12_within_6 rfl rfl ?_
      refine fr_icm_gt (tg := 14) (pc := 7) dX12_within_7 rfl hq (fun hc5 hq => ?_) (fun hc5 hq => ?_)
      · refine fr_iconst (pc := 10) dX12_within_10 (by decide) ?_
        refine fr_goto (tg := 15) (pc := 11) dX12_within_11 rfl ?_
        refine fr_iret (pc := 15) dX12_within_15 (Or.inr (Or.inl ⟨rfl, Or.inr rfl⟩)) ?_
        refine fr_ifcF (tg := 27) (pc := 20) dX12_isOf_20 rfl rfl ?_
        refine fr_iconst (pc := 23) dX12_isOf_23 (by decide) ?_
        refine fr_goto (tg := 28) (pc := 24) dX12_isOf_24 rfl ?_
        exact fr_iret (pc := 28) dX12_isOf_28 (Or.inr (Or.inl ⟨rfl, Or.inr rfl⟩)) hq
      · refine fr_iconst (pc := 14) dX12_within_14 (by decide) ?_
        refine fr_iret (pc := 15) dX12_within_15 (Or.inr (Or.inl ⟨rfl, Or.inl rfl⟩)) ?_
        refine fr_ifcT (tg := 27) (pc := 20) dX12_isOf_20 rfl rfl ?_
        refine fr_iconst (pc := 27) dX12_isOf_27 (by decide) ?_
        exact fr_iret (pc := 28) dX12_isOf_28 (Or.inr (Or.inl ⟨rfl, Or.inl rfl⟩)) hq
  · refine fr_iconst (pc := 27) dX12_isOf_27 (by decide) ?_
    exact fr_iret (pc := 28) dX12_isOf_28 (Or.inr (Or.inl ⟨rfl, Or.inl rfl⟩)) hq
theorem k12_signOf_r {a1 : Int} {M : pm_M} {K : Int → pm_M → Prop} (hq : (if a1 = 37 then K 4 M else (if a1 = 42 then K 2 M else (if a1 = 43 then K 0 M else (if a1 = 45 then K 1 M else (if a1 = 47 then K 3 M else (if a1 = 60 then K 5 M else (if a1 = 62 then K 9 M else (if a1 = 300 then K 6 M else (if a1 = 301 then K 10 M else (if a1 = 302 then K 7 M else (if a1 = 303 then K 8 M else K (-1) M)))))))))))) : k12_signOf a1 M K := by
  intro sc d hd
  refine fr_iload_n (pc := 0) dX12_signOf_0 rfl rfl ?_
  refine pm_ite hq (fun hc1 hq => ?_) (fun hc1 hq => ?_)
  · refine fr_lookV (tg := 108) (off := 107) (v := 37) (pc := 1) dX12_signOf_1 rfl hc1 rfl rfl ?_
    refine fr_iconst (pc := 108) dX12_signOf_108 (by decide) ?_
    exact fr_iret (pc := 109) dX12_signOf_109 (Or.inl rfl) hq
  · refine pm_ite hq (fun hc2 hq => ?_) (fun hc2 hq => ?_)
    · refine fr_lookV (tg := 104) (off := 103) (v := 42) (pc := 1) dX12_signOf_1 rfl hc2 rfl rfl ?_
      refine fr_iconst (pc := 104) dX12_signOf_104 (by decide) ?_
      exact fr_iret (pc := 105) dX12_signOf_105 (Or.inl rfl) hq
    · refine pm_ite hq (fun hc3 hq => ?_) (fun hc3 hq => ?_)
      · refine fr_lookV (tg := 100) (off := 99) (v := 43) (pc := 1) dX12_signOf_1 rfl hc3 rfl rfl ?_
        refine fr_iconst (pc := 100) dX12_signOf_100 (by decide) ?_
        exact fr_iret (pc := 101) dX12_signOf_101 (Or.inl rfl) hq
      · refine pm_ite hq (fun hc4 hq => ?_) (fun hc4 hq => ?_)
        · refine fr_lookV (tg := 102) (off := 101) (v := 45) (pc := 1) dX12_signOf_1 rfl hc4 rfl rfl ?_
          refine fr_iconst (pc := 102) dX12_signOf_102 (by decide) ?_
          exact fr_iret (pc := 103) dX12_signOf_103 (Or.inl rfl) hq
        · refine pm_ite hq (fun hc5 hq => ?_) (fun hc5 hq => ?_)
          · refine fr_lookV (tg := 106) (off := 105) (v := 47) (pc := 1) dX12_signOf_1 rfl hc5 rfl rfl ?_
            refine fr_iconst (pc := 106) dX12_signOf_106 (by decide) ?_
            exact fr_iret (pc := 107) dX12_signOf_107 (Or.inl rfl) hq
          · refine pm_ite hq (fun hc6 hq => ?_) (fun hc6 hq => ?_)
            · refine fr_lookV (tg := 110) (off := 109) (v := 60) (pc := 1) dX12_signOf_1 rfl hc6 rfl rfl ?_
              refine fr_iconst (pc := 110) dX12_signOf_110 (by decide) ?_
              exact fr_iret (pc := 111) dX12_signOf_111 (Or.inl rfl) hq
            · refine pm_ite hq (fun hc7 hq => ?_) (fun hc7 hq => ?_)
              · refine fr_lookV (tg := 121) (off := 120) (v := 62) (pc := 1) dX12_signOf_1 rfl hc7 rfl rfl ?_
                refine fr_bipush (pc := 121) dX12_signOf_121 (by decide) ?_
                exact fr_iret (pc := 123) dX12_signOf_123 (Or.inl rfl) hq
              · refine pm_ite hq (fun hc8 hq => ?_) (fun hc8 hq => ?_)
                · refine fr_lookV (tg := 112) (off := 111) (v := 300) (pc := 1) dX12_signOf_1 rfl hc8 rfl rfl ?_
                  refine fr_bipush (pc := 112) dX12_signOf_112 (by decide) ?_
                  exact fr_iret (pc := 114) dX12_signOf_114 (Or.inl rfl) hq
                · refine pm_ite hq (fun hc9 hq => ?_) (fun hc9 hq => ?_)
                  · refine fr_lookV (tg := 124) (off := 123) (v := 301) (pc := 1) dX12_signOf_1 rfl hc9 rfl rfl ?_
                    refine fr_bipush (pc := 124) dX12_signOf_124 (by decide) ?_
                    exact fr_iret (pc := 126) dX12_signOf_126 (Or.inl rfl) hq
                  · refine pm_ite hq (fun hc10 hq => ?_) (fun hc10 hq => ?_)
                    · refine fr_lookV (tg := 115) (off := 114) (v := 302) (pc := 1) dX12_signOf_1 rfl hc10 rfl rfl ?_
                      refine fr_bipush (pc := 115) dX12_signOf_115 (by decide) ?_
                      exact fr_iret (pc := 117) dX12_signOf_117 (Or.inl rfl) hq
                    · refine pm_ite hq (fun hc11 hq => ?_) (fun hc11 hq => ?_)
                      · refine fr_lookV (tg := 118) (off := 117) (v := 303) (pc := 1) dX12_signOf_1 rfl hc11 rfl rfl ?_
                        refine fr_bipush (pc := 118) dX12_signOf_118 (by decide) ?_
                        exact fr_iret (pc := 120) dX12_signOf_120 (Or.inl rfl) hq
                      · refine fr_lookup (tg := 127) (off := 126) (pc := 1) dX12_signOf_1 rfl (by simp only [Op.lookupswitch.offset, if_neg (Ne.symm hc1), if_neg (Ne.symm hc2), if_neg (Ne.symm hc3), if_neg (Ne.symm hc4), if_neg (Ne.symm hc5), if_neg (Ne.symm hc6), if_neg (Ne.symm hc7), if_neg (Ne.symm hc8), if_neg (Ne.symm hc9), if_neg (Ne.symm hc10), if_neg (Ne.symm hc11)]) rfl ?_
                        refine fr_iconst (pc := 127) dX12_signOf_127 (by decide) ?_
                        exact fr_iret (pc := 128) dX12_signOf_128 (Or.inl rfl) hq
theorem k12_joins_r {a1 a2 : Int} {M : pm_M} {K : Int → pm_M → Prop} (hq : k12_signOf (gI M 142 7) M (fun r2 M1 => k12_addsAhead a1 7 r2 a2 M1 (fun r4 M3 => k12_go M3 (fun M5 => ((0 ≤ w32 (100 + r4) ∧ w32 (100 + r4) < 800) ∧ K r4 (upI M5 149 (w32 (100 + r4)) (gI M5 142 18))))))) : k12_joins a1 a2 M K := by
  intro sc d hd
  refine fr_aload_n (pc := 0) dX12_joins_0 rfl rfl ?_
  refine fr_iload_n (pc := 1) dX12_joins_1 rfl rfl ?_
  refine fr_bipush (pc := 2) dX12_joins_2 (by decide) ?_
  refine fr_aload_n (pc := 4) dX12_joins_4 rfl rfl ?_
  refine fr_getf (a := 142) (i := 7) (v := gI M 142 7) (t := 0) (pc := 5) dX12_joins_5 rfl pf_12_151 rfl s0_142 rfl rfl ?_
  refine fr_inSI (as := [(0, gI M 142 7)]) (rest := [(0, 7), (0, a1), (2, 142)]) (ls' := [(0, gI M 142 7)]) (c1 := 0) (c2 := 0) (pc := 8) dX12_joins_8 pl_12_193 rfl ⟨Nat.le_of_ble_eq_true rfl, Nat.le_of_ble_eq_true rfl⟩ rfl rfl  (by omega) rfl rfl (pm_zc _) (hq sc _ (by omega)) (fun r2 M1 hq => ?_)
  refine fr_iload_n (pc := 11) dX12_joins_11 rfl rfl ?_
  refine fr_inVI (a := 142) (as := [(0, a1), (0, 7), (0, r2), (0, a2)]) (rest := []) (ls' := [(2, 142), (0, a1), (0, 7), (0, r2), (0, a2), (9, 0), (9, 0)]) (c1 := 0) (c2 := 0) (pc := 12) dX12_joins_12 pl_12_196 rfl ⟨Nat.le_of_ble_eq_true rfl, Nat.le_of_ble_eq_true rfl⟩ rfl rfl rfl s0_142 (Nat.le_of_ble_eq_true rfl) (by omega) rfl rfl (pm_zc _) (hq sc _ (by omega)) (fun r4 M3 hq => ?_)
  refine fr_istore_n (ls2 := [(2, 142), (0, a1), (0, a2), (0, r4)]) (pc := 15) dX12_joins_15 rfl (Nat.le_of_ble_eq_true rfl) rfl ?_
  refine fr_aload_n (pc := 16) dX12_joins_16 rfl rfl ?_
  refine fr_inVV (a := 142) (as := []) (rest := []) (ls' := [(2, 142), (9, 0)]) (c1 := 0) (c2 := 0) (pc := 17) dX12_joins_17 pl_12_167 rfl ⟨Nat.le_of_ble_eq_true rfl, Nat.le_of_ble_eq_true rfl⟩ rfl rfl rfl s0_142 (Nat.le_of_ble_eq_true rfl) (by omega) rfl rfl (pm_zc _) (hq sc _ (by omega)) (fun M5 hq => ?_)
  refine fr_aload_n (pc := 20) dX12_joins_20 rfl rfl ?_
  refine fr_getr (a := 142) (pc := 21) dX12_joins_21 rfl pf_12_29 s0_142 rfl rf_142_14 ?_
  refine fr_bipush (pc := 24) dX12_joins_24 (by decide) ?_
  refine fr_iload_n (pc := 26) dX12_joins_26 rfl rfl ?_
  refine fr_iadd (z := w32 (100 + r4)) (pc := 27) dX12_joins_27 rfl ?_
  refine fr_aload_n (pc := 28) dX12_joins_28 rfl rfl ?_
  refine fr_getf (a := 142) (i := 18) (v := gI M5 142 18) (t := 0) (pc := 29) dX12_joins_29 rfl pf_12_170 rfl s0_142 rfl rfl ?_
  obtain ⟨hb7, hq⟩ := hq
  refine fr_iastore (a := 149) (pc := 32) dX12_joins_32 rfl s0_149 hb7 nr_149 ?_
  refine fr_iload_n (pc := 33) dX12_joins_33 rfl rfl ?_
  exact fr_iret (pc := 34) dX12_joins_34 (Or.inl rfl) hq
theorem k12_addsAhead_r {a1 a2 a3 a4 : Int} {M : pm_M} {K : Int → pm_M → Prop} (hq : k12_adds a2 a3 a4 M (fun r2 M1 => k12_addsAhead_17 a1 a2 a3 a4 (w32 (100 + r2)) M1 K)) : k12_addsAhead a1 a2 a3 a4 M K := by
  intro sc d hd
  refine fr_aload_n (pc := 0) dX12_addsAhead_0 rfl rfl ?_
  refine fr_iload_n (pc := 1) dX12_addsAhead_1 rfl rfl ?_
  refine fr_iload_n (pc := 2) dX12_addsAhead_2 rfl rfl ?_
  refine fr_iload (pc := 3) dX12_addsAhead_3 rfl rfl ?_
  refine fr_inVI (a := 142) (as := [(0, a2), (0, a3), (0, a4)]) (rest := []) (ls' := [(2, 142), (0, a2), (0, a3), (0, a4), (9, 0)]) (c1 := 0) (c2 := 0) (pc := 5) dX12_addsAhead_5 pl_12_173 rfl ⟨Nat.le_of_ble_eq_true rfl, Nat.le_of_ble_eq_true rfl⟩ rfl rfl rfl s0_142 (Nat.le_of_ble_eq_true rfl) (by omega) rfl rfl (pm_zc _) (hq sc _ (by omega)) (fun r2 M1 hq => ?_)
  refine fr_istore (ls2 := [(2, 142), (0, a1), (0, a2), (0, a3), (0, a4), (0, r2), (9, 0)]) (pc := 8) dX12_addsAhead_8 rfl (Nat.le_of_ble_eq_true rfl) rfl ?_
  refine fr_bipush (pc := 10) dX12_addsAhead_10 (by decide) ?_
  refine fr_iload (pc := 12) dX12_addsAhead_12 rfl rfl ?_
  refine fr_iadd (z := w32 (100 + r2)) (pc := 14) dX12_addsAhead_14 rfl ?_
  refine fr_istore (ls2 := [(2, 142), (0, a1), (0, a2), (0, a3), (0, a4), (0, r2), (0, w32 (100 + r2))]) (pc := 15) dX12_addsAhead_15 rfl (Nat.le_of_ble_eq_true rfl) rfl ?_
  exact hq sc d hd (0, r2) pm_t0
theorem k12_addsAhead_17_r {l1 l2 l3 l4 l6 : Int} {M : pm_M} {K : Int → pm_M → Prop} (hq : (if l6 ≤ w32 (100 + l1) then ((0 ≤ w32 (100 + l1) ∧ w32 (100 + l1) < 800) ∧ ((0 ≤ w32 ((w32 (100 + l1)) + 1) ∧ w32 ((w32 (100 + l1)) + 1) < 800) ∧ K l1 (upI (upI (upI (upI (upI (upI M 145 (w32 (100 + l1)) l2) 146 (w32 (100 + l1)) l3) 147 (w32 (100 + l1)) l4) 148 (w32 (100 + l1)) (w32 (l1 + 1))) 149 (w32 (100 + l1)) (-1)) 147 (w32 ((w32 (100 + l1)) + 1)) l1))) else ((0 ≤ w32 (l6 - 1) ∧ w32 (l6 - 1) < 800) ∧ ((0 ≤ l6 ∧ l6 < 800) ∧ (if gI M 147 (w32 (l6 - 1)) < l1 then (if gI M 148 (w32 (l6 - 1)) < l1 then (if gI M 149 (w32 (l6 - 1)) < l1 then k12_addsAhead_17 l1 l2 l3 l4 (w32 (l6 + (-1))) (upI (upI (upI (upI (upI M 145 l6 (gI M 145 (w32 (l6 - 1)))) 146 l6 (gI M 146 (w32 (l6 - 1)))) 147 l6 (gI M 147 (w32 (l6 - 1)))) 148 l6 (gI M 148 (w32 (l6 - 1)))) 149 l6 (gI M 149 (w32 (l6 - 1)))) K else k12_addsAhead_17 l1 l2 l3 l4 (w32 (l6 + (-1))) (upI (upI (upI (upI (upI M 145 l6 (gI M 145 (w32 (l6 - 1)))) 146 l6 (gI M 146 (w32 (l6 - 1)))) 147 l6 (gI M 147 (w32 (l6 - 1)))) 148 l6 (gI M 148 (w32 (l6 - 1)))) 149 l6 (w32 ((gI M 149 (w32 (l6 - 1))) + 1))) K) else (if gI M 149 (w32 (l6 - 1)) < l1 then k12_addsAhead_17 l1 l2 l3 l4 (w32 (l6 + (-1))) (upI (upI (upI (upI (upI M 145 l6 (gI M 145 (w32 (l6 - 1)))) 146 l6 (gI M 146 (w32 (l6 - 1)))) 147 l6 (gI M 147 (w32 (l6 - 1)))) 148 l6 (w32 ((gI M 148 (w32 (l6 - 1))) + 1))) 149 l6 (gI M 149 (w32 (l6 - 1)))) K else k12_addsAhead_17 l1 l2 l3 l4 (w32 (l6 + (-1))) (upI (upI (upI (upI (upI M 145 l6 (gI M 145 (w32 (l6 - 1)))) 146 l6 (gI M 146 (w32 (l6 - 1)))) 147 l6 (gI M 147 (w32 (l6 - 1)))) 148 l6 (w32 ((gI M 148 (w32 (l6 - 1))) + 1))) 149 l6 (w32 ((gI M 149 (w32 (l6 - 1))) + 1))) K)) else (if gI M 148 (w32 (l6 - 1)) < l1 then (if gI M 149 (w32 (l6 - 1)) < l1 then k12_addsAhead_17 l1 l2 l3 l4 (w32 (l6 + (-1))) (upI (upI (upI (upI (upI M 145 l6 (gI M 145 (w32 (l6 - 1)))) 146 l6 (gI M 146 (w32 (l6 - 1)))) 147 l6 (w32 ((gI M 147 (w32 (l6 - 1))) + 1))) 148 l6 (gI M 148 (w32 (l6 - 1)))) 149 l6 (gI M 149 (w32 (l6 - 1)))) K else k12_addsAhead_17 l1 l2 l3 l4 (w32 (l6 + (-1))) (upI (upI (upI (upI (upI M 145 l6 (gI M 145 (w32 (l6 - 1)))) 146 l6 (gI M 146 (w32 (l6 - 1)))) 147 l6 (w32 ((gI M 147 (w32 (l6 - 1))) + 1))) 148 l6 (gI M 148 (w32 (l6 - 1)))) 149 l6 (w32 ((gI M 149 (w32 (l6 - 1))) + 1))) K) else (if gI M 149 (w32 (l6 - 1)) < l1 then k12_addsAhead_17 l1 l2 l3 l4 (w32 (l6 + (-1))) (upI (upI (upI (upI (upI M 145 l6 (gI M 145 (w32 (l6 - 1)))) 146 l6 (gI M 146 (w32 (l6 - 1)))) 147 l6 (w32 ((gI M 147 (w32 (l6 - 1))) + 1))) 148 l6 (w32 ((gI M 148 (w32 (l6 - 1))) + 1))) 149 l6 (gI M 149 (w32 (l6 - 1)))) K else k12_addsAhead_17 l1 l2 l3 l4 (w32 (l6 + (-1))) (upI (upI (upI (upI (upI M 145 l6 (gI M 145 (w32 (l6 - 1)))) 146 l6 (gI M 146 (w32 (l6 - 1)))) 147 l6 (w32 ((gI M 147 (w32 (l6 - 1))) + 1))) 148 l6 (w32 ((gI M 148 (w32 (l6 - 1))) + 1))) 149 l6 (w32 ((gI M 149 (w32 (l6 - 1))) + 1))) K))))))) : k12_addsAhead_17 l1 l2 l3 l4 l6 M K := by
  intro sc d hd z5 hz5
  refine fr_iload (pc := 17) dX12_addsAhead_17 rfl rfl ?_
  refine fr_bipush (pc := 19) dX12_addsAhead_19 (by decide) ?_
  refine fr_iload_n (pc := 21) dX12_addsAhead_21 rfl rfl ?_
  refine fr_iadd (z := w32 (100 + l1)) (pc := 22) dX12_addsAhead_22 rfl ?_
  refine fr_icm_le (tg := 193) (pc := 23) dX12_addsAhead_23 rfl hq (fun hc1 hq => ?_) (fun hc1 hq => ?_)
  · refine fr_bipush (pc := 193) dX12_addsAhead_193 (by decide) ?_
    refine fr_iload_n (pc := 195) dX12_addsAhead_195 rfl rfl ?_
    refine fr_iadd (z := w32 (100 + l1)) (pc := 196) dX12_addsAhead_196 rfl ?_
    refine fr_istore (ls2 := [(2, 142), (0, l1), (0, l2), (0, l3), (0, l4), z5, (0, w32 (100 + l1))]) (pc := 197) dX12_addsAhead_197 rfl (Nat.le_of_ble_eq_true rfl) (pm_st1z hz5 rfl rfl) ?_
    refine fr_aload_n (pc := 199) dX12_addsAhead_199 rfl rfl ?_
    refine fr_getr (a := 142) (pc := 200) dX12_addsAhead_200 rfl pf_12_17 s0_142 rfl rf_142_10 ?_
    refine fr_iload (pc := 203) dX12_addsAhead_203 rfl rfl ?_
    refine fr_iload_n (pc := 205) dX12_addsAhead_205 rfl rfl ?_
    obtain ⟨hb2, hq⟩ := hq
    refine fr_iastore (a := 145) (pc := 206) dX12_addsAhead_206 rfl s0_145 hb2 nr_145 ?_
    refine fr_aload_n (pc := 207) dX12_addsAhead_207 rfl rfl ?_
    refine fr_getr (a := 142) (pc := 208) dX12_addsAhead_208 rfl pf_12_20 s0_142 rfl rf_142_11 ?_
    refine fr_iload (pc := 211) dX12_addsAhead_211 rfl rfl ?_
    refine fr_iload_n (pc := 213) dX12_addsAhead_213 rfl rfl ?_
    refine fr_iastore (a := 146) (pc := 214) dX12_addsAhead_214 rfl s0_146 hb2 nr_146 ?_
    refine fr_aload_n (pc := 215) dX12_addsAhead_215 rfl rfl ?_
    refine fr_getr (a := 142) (pc := 216) dX12_addsAhead_216 rfl pf_12_23 s0_142 rfl rf_142_12 ?_
    refine fr_iload (pc := 219) dX12_addsAhead_219 rfl rfl ?_
    refine fr_iload (pc := 221) dX12_addsAhead_221 rfl rfl ?_
    refine fr_iastore (a := 147) (pc := 223) dX12_addsAhead_223 rfl s0_147 hb2 nr_147 ?_
    refine fr_aload_n (pc := 224) dX12_addsAhead_224 rfl rfl ?_
    refine fr_getr (a := 142) (pc := 225) dX12_addsAhead_225 rfl pf_12_26 s0_142 rfl rf_142_13 ?_
    refine fr_iload (pc := 228) dX12_addsAhead_228 rfl rfl ?_
    refine fr_iload_n (pc := 230) dX12_addsAhead_230 rfl rfl ?_
    refine fr_iconst (pc := 231) dX12_addsAhead_231 (by decide) ?_
    refine fr_iadd (z := w32 (l1 + 1)) (pc := 232) dX12_addsAhead_232 rfl ?_
    refine fr_iastore (a := 148) (pc := 233) dX12_addsAhead_233 rfl s0_148 hb2 nr_148 ?_
    refine fr_aload_n (pc := 234) dX12_addsAhead_234 rfl rfl ?_
    refine fr_getr (a := 142) (pc := 235) dX12_addsAhead_235 rfl pf_12_29 s0_142 rfl rf_142_14 ?_
    refine fr_iload (pc := 238) dX12_addsAhead_238 rfl rfl ?_
    refine fr_iconst (pc := 240) dX12_addsAhead_240 (by decide) ?_
    refine fr_iastore (a := 149) (pc := 241) dX12_addsAhead_241 rfl s0_149 hb2 nr_149 ?_
    refine fr_aload_n (pc := 242) dX12_addsAhead_242 rfl rfl ?_
    refine fr_getr (a := 142) (pc := 243) dX12_addsAhead_243 rfl pf_12_23 s0_142 rfl rf_142_12 ?_
    refine fr_iload (pc := 246) dX12_addsAhead_246 rfl rfl ?_
    refine fr_iconst (pc := 248) dX12_addsAhead_248 (by decide) ?_
    refine fr_iadd (z := w32 ((w32 (100 + l1)) + 1)) (pc := 249) dX12_addsAhead_249 rfl ?_
    refine fr_iload_n (pc := 250) dX12_addsAhead_250 rfl rfl ?_
    obtain ⟨hb3, hq⟩ := hq
    refine fr_iastore (a := 147) (pc := 251) dX12_addsAhead_251 rfl s0_147 hb3 nr_147 ?_
    refine fr_iload_n (pc := 252) dX12_addsAhead_252 rfl rfl ?_
    exact fr_iret (pc := 253) dX12_addsAhead_253 (Or.inl rfl) hq
  · refine fr_aload_n (pc := 26) dX12_addsAhead_26 rfl rfl ?_
    refine fr_getr (a := 142) (pc := 27) dX12_addsAhead_27 rfl pf_12_17 s0_142 rfl rf_142_10 ?_
    refine fr_iload (pc := 30) dX12_addsAhead_30 rfl rfl ?_
    refine fr_aload_n (pc := 32) dX12_addsAhead_32 rfl rfl ?_
    refine fr_getr (a := 142) (pc := 33) dX12_addsAhead_33 rfl pf_12_17 s0_142 rfl rf_142_10 ?_
    refine fr_iload (pc := 36) dX12_addsAhead_36 rfl rfl ?_
    refine fr_iconst (pc := 38) dX12_addsAhead_38 (by decide) ?_
    refine fr_isub (z := w32 (l6 - 1)) (pc := 39) dX12_addsAhead_39 rfl ?_
    obtain ⟨hb4, hq⟩ := hq
    refine fr_iaload (a := 145) (v := gI M 145 (w32 (l6 - 1))) (pc := 40) dX12_addsAhead_40 rfl s0_145 hb4 rfl ?_
    obtain ⟨hb5, hq⟩ := hq
    refine fr_iastore (a := 145) (pc := 41) dX12_addsAhead_41 rfl s0_145 hb5 nr_145 ?_
    refine fr_aload_n (pc := 42) dX12_addsAhead_42 rfl rfl ?_
    refine fr_getr (a := 142) (pc := 43) dX12_addsAhead_43 rfl pf_12_20 s0_142 rfl rf_142_11 ?_
    refine fr_iload (pc := 46) dX12_addsAhead_46 rfl rfl ?_
    refine fr_aload_n (pc := 48) dX12_addsAhead_48 rfl rfl ?_
    refine fr_getr (a := 142) (pc := 49) dX12_addsAhead_49 rfl pf_12_20 s0_142 rfl rf_142_11 ?_
    refine fr_iload (pc := 52) dX12_addsAhead_52 rfl rfl ?_
    refine fr_iconst (pc := 54) dX12_addsAhead_54 (by decide) ?_
    refine fr_isub (z := w32 (l6 - 1)) (pc := 55) dX12_addsAhead_55 rfl ?_
    refine fr_iaload (a := 146) (v := gI M 146 (w32 (l6 - 1))) (pc := 56) dX12_addsAhead_56 rfl s0_146 hb4 (gI_ne _ _ _ _ (by decide)) ?_
    refine fr_iastore (a := 146) (pc := 57) dX12_addsAhead_57 rfl s0_146 hb5 nr_146 ?_
    refine fr_aload_n (pc := 58) dX12_addsAhead_58 rfl rfl ?_
    refine fr_getr (a := 142) (pc := 59) dX12_addsAhead_59 rfl pf_12_23 s0_142 rfl rf_142_12 ?_
    refine fr_iload (pc := 62) dX12_addsAhead_62 rfl rfl ?_
    refine fr_aload_n (pc := 64) dX12_addsAhead_64 rfl rfl ?_
    refine fr_getr (a := 142) (pc := 65) dX12_addsAhead_65 rfl pf_12_23 s0_142 rfl rf_142_12 ?_
    refine fr_iload (pc := 68) dX12_addsAhead_68 rfl rfl ?_
    refine fr_iconst (pc := 70) dX12_addsAhead_70 (by decide) ?_
    refine fr_isub (z := w32 (l6 - 1)) (pc := 71) dX12_addsAhead_71 rfl ?_
    refine fr_iaload (a := 147) (v := gI M 147 (w32 (l6 - 1))) (pc := 72) dX12_addsAhead_72 rfl s0_147 hb4 ((gI_ne _ _ _ _ (by decide)).trans (gI_ne _ _ _ _ (by decide))) ?_
    refine fr_iload_n (pc := 73) dX12_addsAhead_73 rfl rfl ?_
    refine fr_icm_lt (tg := 91) (pc := 74) dX12_addsAhead_74 rfl hq (fun hc6 hq => ?_) (fun hc6 hq => ?_)
    · refine fr_aload_n (pc := 91) dX12_addsAhead_91 rfl rfl ?_
      refine fr_getr (a := 142) (pc := 92) dX12_addsAhead_92 rfl pf_12_23 s0_142 rfl rf_142_12 ?_
      refine fr_iload (pc := 95) dX12_addsAhead_95 rfl rfl ?_
      refine fr_iconst (pc := 97) dX12_addsAhead_97 (by decide) ?_
      refine fr_isub (z := w32 (l6 - 1)) (pc := 98) dX12_addsAhead_98 rfl ?_
      refine fr_iaload (a := 147) (v := gI M 147 (w32 (l6 - 1))) (pc := 99) dX12_addsAhead_99 rfl s0_147 hb4 ((gI_ne _ _ _ _ (by decide)).trans (gI_ne _ _ _ _ (by decide))) ?_
      refine fr_iastore (a := 147) (pc := 100) dX12_addsAhead_100 rfl s0_147 hb5 nr_147 ?_
      refine fr_aload_n (pc := 101) dX12_addsAhead_101 rfl rfl ?_
      refine fr_getr (a := 142) (pc := 102) dX12_addsAhead_102 rfl pf_12_26 s0_142 rfl rf_142_13 ?_
      refine fr_iload (pc := 105) dX12_addsAhead_105 rfl rfl ?_
      refine fr_aload_n (pc := 107) dX12_addsAhead_107 rfl rfl ?_
      refine fr_getr (a := 142) (pc := 108) dX12_addsAhead_108 rfl pf_12_26 s0_142 rfl rf_142_13 ?_
      refine fr_iload (pc := 111) dX12_addsAhead_111 rfl rfl ?_
      refine fr_iconst (pc := 113) dX12_addsAhead_113 (by decide) ?_
      refine fr_isub (z := w32 (l6 - 1)) (pc := 114) dX12_addsAhead_114 rfl ?_
      refine fr_iaload (a := 148) (v := gI M 148 (w32 (l6 - 1))) (pc := 115) dX12_addsAhead_115 rfl s0_148 hb4 ((gI_ne _ _ _ _ (by decide)).trans ((gI_ne _ _ _ _ (by decide)).trans (gI_ne _ _ _ _ (by decide)))) ?_
      refine fr_iload_n (pc := 116) dX12_addsAhead_116 rfl rfl ?_
      refine fr_icm_lt (tg := 134) (pc := 117) dX12_addsAhead_117 rfl hq (fun hc7 hq => ?_) (fun hc7 hq => ?_)
      · refine fr_aload_n (pc := 134) dX12_addsAhead_134 rfl rfl ?_
        refine fr_getr (a := 142) (pc := 135) dX12_addsAhead_135 rfl pf_12_26 s0_142 rfl rf_142_13 ?_
        refine fr_iload (pc := 138) dX12_addsAhead_138 rfl rfl ?_
        refine fr_iconst (pc := 140) dX12_addsAhead_140 (by decide) ?_
        refine fr_isub (z := w32 (l6 - 1)) (pc := 141) dX12_addsAhead_141 rfl ?_
        refine fr_iaload (a := 148) (v := gI M 148 (w32 (l6 - 1))) (pc := 142) dX12_addsAhead_142 rfl s0_148 hb4 ((gI_ne _ _ _ _ (by decide)).trans ((gI_ne _ _ _ _ (by decide)).trans (gI_ne _ _ _ _ (by decide)))) ?_
        refine fr_iastore (a := 148) (pc := 143) dX12_addsAhead_143 rfl s0_148 hb5 nr_148 ?_
        refine fr_aload_n (pc := 144) dX12_addsAhead_144 rfl rfl ?_
        refine fr_getr (a := 142) (pc := 145) dX12_addsAhead_145 rfl pf_12_29 s0_142 rfl rf_142_14 ?_
        refine fr_iload (pc := 148) dX12_addsAhead_148 rfl rfl ?_
        refine fr_aload_n (pc := 150) dX12_addsAhead_150 rfl rfl ?_
        refine fr_getr (a := 142) (pc := 151) dX12_addsAhead_151 rfl pf_12_29 s0_142 rfl rf_142_14 ?_
        refine fr_iload (pc := 154) dX12_addsAhead_154 rfl rfl ?_
        refine fr_iconst (pc := 156) dX12_addsAhead_156 (by decide) ?_
        refine fr_isub (z := w32 (l6 - 1)) (pc := 157) dX12_addsAhead_157 rfl ?_
        refine fr_iaload (a := 149) (v := gI M 149 (w32 (l6 - 1))) (pc := 158) dX12_addsAhead_158 rfl s0_149 hb4 ((gI_ne _ _ _ _ (by decide)).trans ((gI_ne _ _ _ _ (by decide)).trans ((gI_ne _ _ _ _ (by decide)).trans (gI_ne _ _ _ _ (by decide))))) ?_
        refine fr_iload_n (pc := 159) dX12_addsAhead_159 rfl rfl ?_
        refine fr_icm_lt (tg := 177) (pc := 160) dX12_addsAhead_160 rfl hq (fun hc8 hq => ?_) (fun hc8 hq => ?_)
        · refine fr_aload_n (pc := 177) dX12_addsAhead_177 rfl rfl ?_
          refine fr_getr (a := 142) (pc := 178) dX12_addsAhead_178 rfl pf_12_29 s0_142 rfl rf_142_14 ?_
          refine fr_iload (pc := 181) dX12_addsAhead_181 rfl rfl ?_
          refine fr_iconst (pc := 183) dX12_addsAhead_183 (by decide) ?_
          refine fr_isub (z := w32 (l6 - 1)) (pc := 184) dX12_addsAhead_184 rfl ?_
          refine fr_iaload (a := 149) (v := gI M 149 (w32 (l6 - 1))) (pc := 185) dX12_addsAhead_185 rfl s0_149 hb4 ((gI_ne _ _ _ _ (by decide)).trans ((gI_ne _ _ _ _ (by decide)).trans ((gI_ne _ _ _ _ (by decide)).trans (gI_ne _ _ _ _ (by decide))))) ?_
          refine fr_iastore (a := 149) (pc := 186) dX12_addsAhead_186 rfl s0_149 hb5 nr_149 ?_
          refine fr_iinc (z := w32 (l6 + (-1))) (ls2 := [(2, 142), (0, l1), (0, l2), (0, l3), (0, l4), z5, (0, w32 (l6 + (-1)))]) (pc := 187) dX12_addsAhead_187 (Nat.le_of_ble_eq_true rfl) rfl rfl (pm_st1z hz5 rfl rfl) ?_
          refine fr_goto (tg := 17) (pc := 190) dX12_addsAhead_190 rfl ?_
          exact hq sc d hd z5 hz5
        · refine fr_aload_n (pc := 163) dX12_addsAhead_163 rfl rfl ?_
          refine fr_getr (a := 142) (pc := 164) dX12_addsAhead_164 rfl pf_12_29 s0_142 rfl rf_142_14 ?_
          refine fr_iload (pc := 167) dX12_addsAhead_167 rfl rfl ?_
          refine fr_iconst (pc := 169) dX12_addsAhead_169 (by decide) ?_
          refine fr_isub (z := w32 (l6 - 1)) (pc := 170) dX12_addsAhead_170 rfl ?_
          refine fr_iaload (a := 149) (v := gI M 149 (w32 (l6 - 1))) (pc := 171) dX12_addsAhead_171 rfl s0_149 hb4 ((gI_ne _ _ _ _ (by decide)).trans ((gI_ne _ _ _ _ (by decide)).trans ((gI_ne _ _ _ _ (by decide)).trans (gI_ne _ _ _ _ (by decide))))) ?_
          refine fr_iconst (pc := 172) dX12_addsAhead_172 (by decide) ?_
          refine fr_iadd (z := w32 ((gI M 149 (w32 (l6 - 1))) + 1)) (pc := 173) dX12_addsAhead_173 rfl ?_
          refine fr_goto (tg := 186) (pc := 174) dX12_addsAhead_174 rfl ?_
          refine fr_iastore (a := 149) (pc := 186) dX12_addsAhead_186 rfl s0_149 hb5 nr_149 ?_
          refine fr_iinc (z := w32 (l6 + (-1))) (ls2 := [(2, 142), (0, l1), (0, l2), (0, l3), (0, l4), z5, (0, w32 (l6 + (-1)))]) (pc := 187) dX12_addsAhead_187 (Nat.le_of_ble_eq_true rfl) rfl rfl (pm_st1z hz5 rfl rfl) ?_
          refine fr_goto (tg := 17) (pc := 190) dX12_addsAhead_190 rfl ?_
          exact hq sc d hd z5 hz5
      · refine fr_aload_n (pc := 120) dX12_addsAhead_120 rfl rfl ?_
        refine fr_getr (a := 142) (pc := 121) dX12_addsAhead_121 rfl pf_12_26 s0_142 rfl rf_142_13 ?_
        refine fr_iload (pc := 124) dX12_addsAhead_124 rfl rfl ?_
        refine fr_iconst (pc := 126) dX12_addsAhead_126 (by decide) ?_
        refine fr_isub (z := w32 (l6 - 1)) (pc := 127) dX12_addsAhead_127 rfl ?_
        refine fr_iaload (a := 148) (v := gI M 148 (w32 (l6 - 1))) (pc := 128) dX12_addsAhead_128 rfl s0_148 hb4 ((gI_ne _ _ _ _ (by decide)).trans ((gI_ne _ _ _ _ (by decide)).trans (gI_ne _ _ _ _ (by decide)))) ?_
        refine fr_iconst (pc := 129) dX12_addsAhead_129 (by decide) ?_
        refine fr_iadd (z := w32 ((gI M 148 (w32 (l6 - 1))) + 1)) (pc := 130) dX12_addsAhead_130 rfl ?_
        refine fr_goto (tg := 143) (pc := 131) dX12_addsAhead_131 rfl ?_
        refine fr_iastore (a := 148) (pc := 143) dX12_addsAhead_143 rfl s0_148 hb5 nr_148 ?_
        refine fr_aload_n (pc := 144) dX12_addsAhead_144 rfl rfl ?_
        refine fr_getr (a := 142) (pc := 145) dX12_addsAhead_145 rfl pf_12_29 s0_142 rfl rf_142_14 ?_
        refine fr_iload (pc := 148) dX12_addsAhead_148 rfl rfl ?_
        refine fr_aload_n (pc := 150) dX12_addsAhead_150 rfl rfl ?_
        refine fr_getr (a := 142) (pc := 151) dX12_addsAhead_151 rfl pf_12_29 s0_142 rfl rf_142_14 ?_
        refine fr_iload (pc := 154) dX12_addsAhead_154 rfl rfl ?_
        refine fr_iconst (pc := 156) dX12_addsAhead_156 (by decide) ?_
        refine fr_isub (z := w32 (l6 - 1)) (pc := 157) dX12_addsAhead_157 rfl ?_
        refine fr_iaload (a := 149) (v := gI M 149 (w32 (l6 - 1))) (pc := 158) dX12_addsAhead_158 rfl s0_149 hb4 ((gI_ne _ _ _ _ (by decide)).trans ((gI_ne _ _ _ _ (by decide)).trans ((gI_ne _ _ _ _ (by decide)).trans (gI_ne _ _ _ _ (by decide))))) ?_
        refine fr_iload_n (pc := 159) dX12_addsAhead_159 rfl rfl ?_
        refine fr_icm_lt (tg := 177) (pc := 160) dX12_addsAhead_160 rfl hq (fun hc9 hq => ?_) (fun hc9 hq => ?_)
        · refine fr_aload_n (pc := 177) dX12_addsAhead_177 rfl rfl ?_
          refine fr_getr (a := 142) (pc := 178) dX12_addsAhead_178 rfl pf_12_29 s0_142 rfl rf_142_14 ?_
          refine fr_iload (pc := 181) dX12_addsAhead_181 rfl rfl ?_
          refine fr_iconst (pc := 183) dX12_addsAhead_183 (by decide) ?_
          refine fr_isub (z := w32 (l6 - 1)) (pc := 184) dX12_addsAhead_184 rfl ?_
          refine fr_iaload (a := 149) (v := gI M 149 (w32 (l6 - 1))) (pc := 185) dX12_addsAhead_185 rfl s0_149 hb4 ((gI_ne _ _ _ _ (by decide)).trans ((gI_ne _ _ _ _ (by decide)).trans ((gI_ne _ _ _ _ (by decide)).trans (gI_ne _ _ _ _ (by decide))))) ?_
          refine fr_iastore (a := 149) (pc := 186) dX12_addsAhead_186 rfl s0_149 hb5 nr_149 ?_
          refine fr_iinc (z := w32 (l6 + (-1))) (ls2 := [(2, 142), (0, l1), (0, l2), (0, l3), (0, l4), z5, (0, w32 (l6 + (-1)))]) (pc := 187) dX12_addsAhead_187 (Nat.le_of_ble_eq_true rfl) rfl rfl (pm_st1z hz5 rfl rfl) ?_
          refine fr_goto (tg := 17) (pc := 190) dX12_addsAhead_190 rfl ?_
          exact hq sc d hd z5 hz5
        · refine fr_aload_n (pc := 163) dX12_addsAhead_163 rfl rfl ?_
          refine fr_getr (a := 142) (pc := 164) dX12_addsAhead_164 rfl pf_12_29 s0_142 rfl rf_142_14 ?_
          refine fr_iload (pc := 167) dX12_addsAhead_167 rfl rfl ?_
          refine fr_iconst (pc := 169) dX12_addsAhead_169 (by decide) ?_
          refine fr_isub (z := w32 (l6 - 1)) (pc := 170) dX12_addsAhead_170 rfl ?_
          refine fr_iaload (a := 149) (v := gI M 149 (w32 (l6 - 1))) (pc := 171) dX12_addsAhead_171 rfl s0_149 hb4 ((gI_ne _ _ _ _ (by decide)).trans ((gI_ne _ _ _ _ (by decide)).trans ((gI_ne _ _ _ _ (by decide)).trans (gI_ne _ _ _ _ (by decide))))) ?_
          refine fr_iconst (pc := 172) dX12_addsAhead_172 (by decide) ?_
          refine fr_iadd (z := w32 ((gI M 149 (w32 (l6 - 1))) + 1)) (pc := 173) dX12_addsAhead_173 rfl ?_
          refine fr_goto (tg := 186) (pc := 174) dX12_addsAhead_174 rfl ?_
          refine fr_iastore (a := 149) (pc := 186) dX12_addsAhead_186 rfl s0_149 hb5 nr_149 ?_
          refine fr_iinc (z := w32 (l6 + (-1))) (ls2 := [(2, 142), (0, l1), (0, l2), (0, l3), (0, l4), z5, (0, w32 (l6 + (-1)))]) (pc := 187) dX12_addsAhead_187 (Nat.le_of_ble_eq_true rfl) rfl rfl (pm_st1z hz5 rfl rfl) ?_
          refine fr_goto (tg := 17) (pc := 190) dX12_addsAhead_190 rfl ?_
          exact hq sc d hd z5 hz5
    · refine fr_aload_n (pc := 77) dX12_addsAhead_77 rfl rfl ?_
      refine fr_getr (a := 142) (pc := 78) dX12_addsAhead_78 rfl pf_12_23 s0_142 rfl rf_142_12 ?_
      refine fr_iload (pc := 81) dX12_addsAhead_81 rfl rfl ?_
      refine fr_iconst (pc := 83) dX12_addsAhead_83 (by decide) ?_
      refine fr_isub (z := w32 (l6 - 1)) (pc := 84) dX12_addsAhead_84 rfl ?_
      refine fr_iaload (a := 147) (v := gI M 147 (w32 (l6 - 1))) (pc := 85) dX12_addsAhead_85 rfl s0_147 hb4 ((gI_ne _ _ _ _ (by decide)).trans (gI_ne _ _ _ _ (by decide))) ?_
      refine fr_iconst (pc := 86) dX12_addsAhead_86 (by decide) ?_
      refine fr_iadd (z := w32 ((gI M 147 (w32 (l6 - 1))) + 1)) (pc := 87) dX12_addsAhead_87 rfl ?_
      refine fr_goto (tg := 100) (pc := 88) dX12_addsAhead_88 rfl ?_
      refine fr_iastore (a := 147) (pc := 100) dX12_addsAhead_100 rfl s0_147 hb5 nr_147 ?_
      refine fr_aload_n (pc := 101) dX12_addsAhead_101 rfl rfl ?_
      refine fr_getr (a := 142) (pc := 102) dX12_addsAhead_102 rfl pf_12_26 s0_142 rfl rf_142_13 ?_
      refine fr_iload (pc := 105) dX12_addsAhead_105 rfl rfl ?_
      refine fr_aload_n (pc := 107) dX12_addsAhead_107 rfl rfl ?_
      refine fr_getr (a := 142) (pc := 108) dX12_addsAhead_108 rfl pf_12_26 s0_142 rfl rf_142_13 ?_
      refine fr_iload (pc := 111) dX12_addsAhead_111 rfl rfl ?_
      refine fr_iconst (pc := 113) dX12_addsAhead_113 (by decide) ?_
      refine fr_isub (z := w32 (l6 - 1)) (pc := 114) dX12_addsAhead_114 rfl ?_
      refine fr_iaload (a := 148) (v := gI M 148 (w32 (l6 - 1))) (pc := 115) dX12_addsAhead_115 rfl s0_148 hb4 ((gI_ne _ _ _ _ (by decide)).trans ((gI_ne _ _ _ _ (by decide)).trans (gI_ne _ _ _ _ (by decide)))) ?_
      refine fr_iload_n (pc := 116) dX12_addsAhead_116 rfl rfl ?_
      refine fr_icm_lt (tg := 134) (pc := 117) dX12_addsAhead_117 rfl hq (fun hc10 hq => ?_) (fun hc10 hq => ?_)
      · refine fr_aload_n (pc := 134) dX12_addsAhead_134 rfl rfl ?_
        refine fr_getr (a := 142) (pc := 135) dX12_addsAhead_135 rfl pf_12_26 s0_142 rfl rf_142_13 ?_
        refine fr_iload (pc := 138) dX12_addsAhead_138 rfl rfl ?_
        refine fr_iconst (pc := 140) dX12_addsAhead_140 (by decide) ?_
        refine fr_isub (z := w32 (l6 - 1)) (pc := 141) dX12_addsAhead_141 rfl ?_
        refine fr_iaload (a := 148) (v := gI M 148 (w32 (l6 - 1))) (pc := 142) dX12_addsAhead_142 rfl s0_148 hb4 ((gI_ne _ _ _ _ (by decide)).trans ((gI_ne _ _ _ _ (by decide)).trans (gI_ne _ _ _ _ (by decide)))) ?_
        refine fr_iastore (a := 148) (pc := 143) dX12_addsAhead_143 rfl s0_148 hb5 nr_148 ?_
        refine fr_aload_n (pc := 144) dX12_addsAhead_144 rfl rfl ?_
        refine fr_getr (a := 142) (pc := 145) dX12_addsAhead_145 rfl pf_12_29 s0_142 rfl rf_142_14 ?_
        refine fr_iload (pc := 148) dX12_addsAhead_148 rfl rfl ?_
        refine fr_aload_n (pc := 150) dX12_addsAhead_150 rfl rfl ?_
        refine fr_getr (a := 142) (pc := 151) dX12_addsAhead_151 rfl pf_12_29 s0_142 rfl rf_142_14 ?_
        refine fr_iload (pc := 154) dX12_addsAhead_154 rfl rfl ?_
        refine fr_iconst (pc := 156) dX12_addsAhead_156 (by decide) ?_
        refine fr_isub (z := w32 (l6 - 1)) (pc := 157) dX12_addsAhead_157 rfl ?_
        refine fr_iaload (a := 149) (v := gI M 149 (w32 (l6 - 1))) (pc := 158) dX12_addsAhead_158 rfl s0_149 hb4 ((gI_ne _ _ _ _ (by decide)).trans ((gI_ne _ _ _ _ (by decide)).trans ((gI_ne _ _ _ _ (by decide)).trans (gI_ne _ _ _ _ (by decide))))) ?_
        refine fr_iload_n (pc := 159) dX12_addsAhead_159 rfl rfl ?_
        refine fr_icm_lt (tg := 177) (pc := 160) dX12_addsAhead_160 rfl hq (fun hc11 hq => ?_) (fun hc11 hq => ?_)
        · refine fr_aload_n (pc := 177) dX12_addsAhead_177 rfl rfl ?_
          refine fr_getr (a := 142) (pc := 178) dX12_addsAhead_178 rfl pf_12_29 s0_142 rfl rf_142_14 ?_
          refine fr_iload (pc := 181) dX12_addsAhead_181 rfl rfl ?_
          refine fr_iconst (pc := 183) dX12_addsAhead_183 (by decide) ?_
          refine fr_isub (z := w32 (l6 - 1)) (pc := 184) dX12_addsAhead_184 rfl ?_
          refine fr_iaload (a := 149) (v := gI M 149 (w32 (l6 - 1))) (pc := 185) dX12_addsAhead_185 rfl s0_149 hb4 ((gI_ne _ _ _ _ (by decide)).trans ((gI_ne _ _ _ _ (by decide)).trans ((gI_ne _ _ _ _ (by decide)).trans (gI_ne _ _ _ _ (by decide))))) ?_
          refine fr_iastore (a := 149) (pc := 186) dX12_addsAhead_186 rfl s0_149 hb5 nr_149 ?_
          refine fr_iinc (z := w32 (l6 + (-1))) (ls2 := [(2, 142), (0, l1), (0, l2), (0, l3), (0, l4), z5, (0, w32 (l6 + (-1)))]) (pc := 187) dX12_addsAhead_187 (Nat.le_of_ble_eq_true rfl) rfl rfl (pm_st1z hz5 rfl rfl) ?_
          refine fr_goto (tg := 17) (pc := 190) dX12_addsAhead_190 rfl ?_
          exact hq sc d hd z5 hz5
        · refine fr_aload_n (pc := 163) dX12_addsAhead_163 rfl rfl ?_
          refine fr_getr (a := 142) (pc := 164) dX12_addsAhead_164 rfl pf_12_29 s0_142 rfl rf_142_14 ?_
          refine fr_iload (pc := 167) dX12_addsAhead_167 rfl rfl ?_
          refine fr_iconst (pc := 169) dX12_addsAhead_169 (by decide) ?_
          refine fr_isub (z := w32 (l6 - 1)) (pc := 170) dX12_addsAhead_170 rfl ?_
          refine fr_iaload (a := 149) (v := gI M 149 (w32 (l6 - 1))) (pc := 171) dX12_addsAhead_171 rfl s0_149 hb4 ((gI_ne _ _ _ _ (by decide)).trans ((gI_ne _ _ _ _ (by decide)).trans ((gI_ne _ _ _ _ (by decide)).trans (gI_ne _ _ _ _ (by decide))))) ?_
          refine fr_iconst (pc := 172) dX12_addsAhead_172 (by decide) ?_
          refine fr_iadd (z := w32 ((gI M 149 (w32 (l6 - 1))) + 1)) (pc := 173) dX12_addsAhead_173 rfl ?_
          refine fr_goto (tg := 186) (pc := 174) dX12_addsAhead_174 rfl ?_
          refine fr_iastore (a := 149) (pc := 186) dX12_addsAhead_186 rfl s0_149 hb5 nr_149 ?_
          refine fr_iinc (z := w32 (l6 + (-1))) (ls2 := [(2, 142), (0, l1), (0, l2), (0, l3), (0, l4), z5, (0, w32 (l6 + (-1)))]) (pc := 187) dX12_addsAhead_187 (Nat.le_of_ble_eq_true rfl) rfl rfl (pm_st1z hz5 rfl rfl) ?_
          refine fr_goto (tg := 17) (pc := 190) dX12_addsAhead_190 rfl ?_
          exact hq sc d hd z5 hz5
      · refine fr_aload_n (pc := 120) dX12_addsAhead_120 rfl rfl ?_
        refine fr_getr (a := 142) (pc := 121) dX12_addsAhead_121 rfl pf_12_26 s0_142 rfl rf_142_13 ?_
        refine fr_iload (pc := 124) dX12_addsAhead_124 rfl rfl ?_
        refine fr_iconst (pc := 126) dX12_addsAhead_126 (by decide) ?_
        refine fr_isub (z := w32 (l6 - 1)) (pc := 127) dX12_addsAhead_127 rfl ?_
        refine fr_iaload (a := 148) (v := gI M 148 (w32 (l6 - 1))) (pc := 128) dX12_addsAhead_128 rfl s0_148 hb4 ((gI_ne _ _ _ _ (by decide)).trans ((gI_ne _ _ _ _ (by decide)).trans (gI_ne _ _ _ _ (by decide)))) ?_
        refine fr_iconst (pc := 129) dX12_addsAhead_129 (by decide) ?_
        refine fr_iadd (z := w32 ((gI M 148 (w32 (l6 - 1))) + 1)) (pc := 130) dX12_addsAhead_130 rfl ?_
        refine fr_goto (tg := 143) (pc := 131) dX12_addsAhead_131 rfl ?_
        refine fr_iastore (a := 148) (pc := 143) dX12_addsAhead_143 rfl s0_148 hb5 nr_148 ?_
        refine fr_aload_n (pc := 144) dX12_addsAhead_144 rfl rfl ?_
        refine fr_getr (a := 142) (pc := 145) dX12_addsAhead_145 rfl pf_12_29 s0_142 rfl rf_142_14 ?_
        refine fr_iload (pc := 148) dX12_addsAhead_148 rfl rfl ?_
        refine fr_aload_n (pc := 150) dX12_addsAhead_150 rfl rfl ?_
        refine fr_getr (a := 142) (pc := 151) dX12_addsAhead_151 rfl pf_12_29 s0_142 rfl rf_142_14 ?_
        refine fr_iload (pc := 154) dX12_addsAhead_154 rfl rfl ?_
        refine fr_iconst (pc := 156) dX12_addsAhead_156 (by decide) ?_
        refine fr_isub (z := w32 (l6 - 1)) (pc := 157) dX12_addsAhead_157 rfl ?_
        refine fr_iaload (a := 149) (v := gI M 149 (w32 (l6 - 1))) (pc := 158) dX12_addsAhead_158 rfl s0_149 hb4 ((gI_ne _ _ _ _ (by decide)).trans ((gI_ne _ _ _ _ (by decide)).trans ((gI_ne _ _ _ _ (by decide)).trans (gI_ne _ _ _ _ (by decide))))) ?_
        refine fr_iload_n (pc := 159) dX12_addsAhead_159 rfl rfl ?_
        refine fr_icm_lt (tg := 177) (pc := 160) dX12_addsAhead_160 rfl hq (fun hc12 hq => ?_) (fun hc12 hq => ?_)
        · refine fr_aload_n (pc := 177) dX12_addsAhead_177 rfl rfl ?_
          refine fr_getr (a := 142) (pc := 178) dX12_addsAhead_178 rfl pf_12_29 s0_142 rfl rf_142_14 ?_
          refine fr_iload (pc := 181) dX12_addsAhead_181 rfl rfl ?_
          refine fr_iconst (pc := 183) dX12_addsAhead_183 (by decide) ?_
          refine fr_isub (z := w32 (l6 - 1)) (pc := 184) dX12_addsAhead_184 rfl ?_
          refine fr_iaload (a := 149) (v := gI M 149 (w32 (l6 - 1))) (pc := 185) dX12_addsAhead_185 rfl s0_149 hb4 ((gI_ne _ _ _ _ (by decide)).trans ((gI_ne _ _ _ _ (by decide)).trans ((gI_ne _ _ _ _ (by decide)).trans (gI_ne _ _ _ _ (by decide))))) ?_
          refine fr_iastore (a := 149) (pc := 186) dX12_addsAhead_186 rfl s0_149 hb5 nr_149 ?_
          refine fr_iinc (z := w32 (l6 + (-1))) (ls2 := [(2, 142), (0, l1), (0, l2), (0, l3), (0, l4), z5, (0, w32 (l6 + (-1)))]) (pc := 187) dX12_addsAhead_187 (Nat.le_of_ble_eq_true rfl) rfl rfl (pm_st1z hz5 rfl rfl) ?_
          refine fr_goto (tg := 17) (pc := 190) dX12_addsAhead_190 rfl ?_
          exact hq sc d hd z5 hz5
        · refine fr_aload_n (pc := 163) dX12_addsAhead_163 rfl rfl ?_
          refine fr_getr (a := 142) (pc := 164) dX12_addsAhead_164 rfl pf_12_29 s0_142 rfl rf_142_14 ?_
          refine fr_iload (pc := 167) dX12_addsAhead_167 rfl rfl ?_
          refine fr_iconst (pc := 169) dX12_addsAhead_169 (by decide) ?_
          refine fr_isub (z := w32 (l6 - 1)) (pc := 170) dX12_addsAhead_170 rfl ?_
          refine fr_iaload (a := 149) (v := gI M 149 (w32 (l6 - 1))) (pc := 171) dX12_addsAhead_171 rfl s0_149 hb4 ((gI_ne _ _ _ _ (by decide)).trans ((gI_ne _ _ _ _ (by decide)).trans ((gI_ne _ _ _ _ (by decide)).trans (gI_ne _ _ _ _ (by decide))))) ?_
          refine fr_iconst (pc := 172) dX12_addsAhead_172 (by decide) ?_
          refine fr_iadd (z := w32 ((gI M 149 (w32 (l6 - 1))) + 1)) (pc := 173) dX12_addsAhead_173 rfl ?_
          refine fr_goto (tg := 186) (pc := 174) dX12_addsAhead_174 rfl ?_
          refine fr_iastore (a := 149) (pc := 186) dX12_addsAhead_186 rfl s0_149 hb5 nr_149 ?_
          refine fr_iinc (z := w32 (l6 + (-1))) (ls2 := [(2, 142), (0, l1), (0, l2), (0, l3), (0, l4), z5, (0, w32 (l6 + (-1)))]) (pc := 187) dX12_addsAhead_187 (Nat.le_of_ble_eq_true rfl) rfl rfl (pm_st1z hz5 rfl rfl) ?_
          refine fr_goto (tg := 17) (pc := 190) dX12_addsAhead_190 rfl ?_
          exact hq sc d hd z5 hz5
theorem k12_block_r {c : Nat} {h : Nat} {o : Nat} {a1 : Int} {M : pm_M} {K : Int → pm_M → Prop} (ho : o = 150 ∨ o = 151) (hh : 151 ≤ h) (hq : (if gI M 142 6 = 3 then (if gI M 142 7 = 123 then (if gI M 142 21 = 4 then (if gI M 142 8 = 0 then K 0 (upI M 142 8 (w32 ((w32 (8 * (gI M 142 4))) + 2))) else K 0 (upI M 142 8 (gI M 142 8))) else k12_go (upI M 142 21 (w32 ((gI M 142 21) + 1))) (fun M5 => (∃ c9 c10 : Nat, c9 + c10 ≤ c ∧ k12_row c9 (h - 1) o a1 1 M5 (fun r8 M7 => (if r8 = 0 then K 0 (upI M7 142 21 (w32 ((gI M7 142 21) - 1))) else k12_sign 125 M7 (fun r14 M13 => (if r14 = 0 then K 0 (upI M13 142 21 (w32 ((gI M13 142 21) - 1))) else K 1 (upI M13 142 21 (w32 ((gI M13 142 21) - 1)))))))))) else (if gI M 142 8 = 0 then K 0 (upI M 142 8 (w32 ((w32 (8 * (gI M 142 4))) + 1))) else K 0 (upI M 142 8 (gI M 142 8)))) else (if gI M 142 8 = 0 then K 0 (upI M 142 8 (w32 ((w32 (8 * (gI M 142 4))) + 1))) else K 0 (upI M 142 8 (gI M 142 8))))) : k12_block c h o a1 M K := by
  intro sc d hd
  rcases ho with rfl | rfl
  · refine fr_aload_n (pc := 0) dX12_block_0 rfl rfl ?_
    refine fr_bipush (pc := 1) dX12_block_1 (by decide) ?_
    refine fr_inVI (a := 142) (as := [(0, 123)]) (rest := []) (ls' := [(2, 142), (0, 123)]) (c1 := 0) (c2 := c) (pc := 3) dX12_block_3 pl_12_161 rfl ⟨Nat.le_of_ble_eq_true rfl, Nat.le_of_ble_eq_true rfl⟩ rfl rfl rfl s0_142 (Nat.le_of_ble_eq_true rfl) (by omega) rfl rfl (pm_zc _) ?_ (fun y M' h => h)
    refine fr_aload_n (pc := 0) dX12_is_0 rfl rfl ?_
    refine fr_getf (a := 142) (i := 6) (v := gI M 142 6) (t := 0) (pc := 1) dX12_is_1 rfl pf_12_144 rfl s0_142 rfl rfl ?_
    refine fr_iconst (pc := 4) dX12_is_4 (by decide) ?_
    refine fr_icm_ne (tg := 20) (pc := 5) dX12_is_5 rfl hq (fun hc1 hq => ?_) (fun hc1 hq => ?_)
    · refine fr_aload_n (pc := 8) dX12_is_8 rfl rfl ?_
      refine fr_getf (a := 142) (i := 7) (v := gI M 142 7) (t := 0) (pc := 9) dX12_is_9 rfl pf_12_151 rfl s0_142 rfl rfl ?_
      refine fr_iload_n (pc := 12) dX12_is_12 rfl rfl ?_
      refine fr_icm_ne (tg := 20) (pc := 13) dX12_is_13 rfl hq (fun hc2 hq => ?_) (fun hc2 hq => ?_)
      · refine fr_iconst (pc := 16) dX12_is_16 (by decide) ?_
        refine fr_goto (tg := 21) (pc := 17) dX12_is_17 rfl ?_
        refine fr_iret (pc := 21) dX12_is_21 (Or.inr (Or.inl ⟨rfl, Or.inr rfl⟩)) ?_
        refine fr_ifcT (tg := 15) (pc := 6) dX12_block_6 rfl rfl ?_
        refine fr_aload_n (pc := 15) dX12_block_15 rfl rfl ?_
        refine fr_getf (a := 142) (i := 21) (v := gI M 142 21) (t := 0) (pc := 16) dX12_block_16 rfl pf_12_217 rfl s0_142 rfl rfl ?_
        refine fr_iconst (pc := 19) dX12_block_19 (by decide) ?_
        refine fr_icm_ne (tg := 29) (pc := 20) dX12_block_20 rfl hq (fun hc3 hq => ?_) (fun hc3 hq => ?_)
        · refine fr_aload_n (pc := 23) dX12_block_23 rfl rfl ?_
          refine fr_iconst (pc := 24) dX12_block_24 (by decide) ?_
          refine fr_inVI (a := 142) (as := [(0, 2)]) (rest := []) (ls' := [(2, 142), (0, 2)]) (c1 := 0) (c2 := c) (pc := 25) dX12_block_25 pl_12_164 rfl ⟨Nat.le_of_ble_eq_true rfl, Nat.le_of_ble_eq_true rfl⟩ rfl rfl rfl s0_142 (Nat.le_of_ble_eq_true rfl) (by omega) rfl rfl (pm_zc _) ?_ (fun y M' h => h)
          refine fr_aload_n (pc := 0) dX12_bad_0 rfl rfl ?_
          refine fr_aload_n (pc := 1) dX12_bad_1 rfl rfl ?_
          refine fr_getf (a := 142) (i := 8) (v := gI M 142 8) (t := 0) (pc := 2) dX12_bad_2 rfl pf_12_158 rfl s0_142 rfl rfl ?_
          refine fr_ifc_ne (tg := 20) (pc := 5) dX12_bad_5 rfl hq (fun hc4 hq => ?_) (fun hc4 hq => ?_)
          · refine fr_bipush (pc := 8) dX12_bad_8 (by decide) ?_
            refine fr_aload_n (pc := 10) dX12_bad_10 rfl rfl ?_
            refine fr_getf (a := 142) (i := 4) (v := gI M 142 4) (t := 0) (pc := 11) dX12_bad_11 rfl pf_12_141 rfl s0_142 rfl rfl ?_
            refine fr_imul (z := w32 (8 * (gI M 142 4))) (pc := 14) dX12_bad_14 rfl ?_
            refine fr_iload_n (pc := 15) dX12_bad_15 rfl rfl ?_
            refine fr_iadd (z := w32 ((w32 (8 * (gI M 142 4))) + 2)) (pc := 16) dX12_bad_16 rfl ?_
            refine fr_goto (tg := 24) (pc := 17) dX12_bad_17 rfl ?_
            refine fr_put (a := 142) (i := 8) (pc := 24) dX12_bad_24 rfl pf_12_158 rfl s0_142 rfl rfl nf_142_8 rfl ?_
            refine fr_iconst (pc := 27) dX12_bad_27 (by decide) ?_
            refine fr_iret (pc := 28) dX12_bad_28 (Or.inr (Or.inl ⟨rfl, Or.inl rfl⟩)) ?_
            exact fr_iret (pc := 28) dX12_block_28 (Or.inr (Or.inl ⟨rfl, Or.inl rfl⟩)) hq
          · refine fr_aload_n (pc := 20) dX12_bad_20 rfl rfl ?_
            refine fr_getf (a := 142) (i := 8) (v := gI M 142 8) (t := 0) (pc := 21) dX12_bad_21 rfl pf_12_158 rfl s0_142 rfl rfl ?_
            refine fr_put (a := 142) (i := 8) (pc := 24) dX12_bad_24 rfl pf_12_158 rfl s0_142 rfl rfl nf_142_8 rfl ?_
            refine fr_iconst (pc := 27) dX12_bad_27 (by decide) ?_
            refine fr_iret (pc := 28) dX12_bad_28 (Or.inr (Or.inl ⟨rfl, Or.inl rfl⟩)) ?_
            exact fr_iret (pc := 28) dX12_block_28 (Or.inr (Or.inl ⟨rfl, Or.inl rfl⟩)) hq
        · refine fr_aload_n (pc := 29) dX12_block_29 rfl rfl ?_
          refine fr_dup (pc := 30) dX12_block_30 pm_t2 ?_
          refine fr_getf (a := 142) (i := 21) (v := gI M 142 21) (t := 0) (pc := 31) dX12_block_31 rfl pf_12_217 rfl s0_142 rfl rfl ?_
          refine fr_iconst (pc := 34) dX12_block_34 (by decide) ?_
          refine fr_iadd (z := w32 ((gI M 142 21) + 1)) (pc := 35) dX12_block_35 rfl ?_
          refine fr_put (a := 142) (i := 21) (pc := 36) dX12_block_36 rfl pf_12_217 rfl s0_142 rfl rfl nf_142_21 rfl ?_
          refine fr_aload_n (pc := 39) dX12_block_39 rfl rfl ?_
          refine fr_inVV (a := 142) (as := []) (rest := []) (ls' := [(2, 142), (9, 0)]) (c1 := 0) (c2 := c) (pc := 40) dX12_block_40 pl_12_167 rfl ⟨Nat.le_of_ble_eq_true rfl, Nat.le_of_ble_eq_true rfl⟩ rfl rfl rfl s0_142 (Nat.le_of_ble_eq_true rfl) (by omega) rfl rfl (pm_zc _) (hq sc _ (by omega)) (fun M5 hq => ?_)
          refine fr_aload_n (pc := 43) dX12_block_43 rfl rfl ?_
          refine fr_iload_n (pc := 44) dX12_block_44 rfl rfl ?_
          refine fr_aload_n (pc := 45) dX12_block_45 rfl rfl ?_
          refine fr_iconst (pc := 46) dX12_block_46 (by decide) ?_
          obtain ⟨c9, c10, hcc11, hq⟩ := hq
          refine fr_inVI (a := 142) (as := [(0, a1), (2, 150), (0, 1)]) (rest := []) (ls' := [(2, 142), (0, a1), (2, 150), (0, 1), (9, 0), (9, 0), (9, 0)]) (c1 := c9) (c2 := c10) (pc := 47) dX12_block_47 pl_12_220 rfl ⟨Nat.le_of_ble_eq_true rfl, Nat.le_of_ble_eq_true rfl⟩ rfl rfl rfl s0_142 (Nat.le_of_ble_eq_true rfl) (by omega) rfl rfl hcc11 (hq sc _ (by omega)) (fun r8 M7 hq => ?_)
          refine fr_ifc_eq (tg := 66) (pc := 50) dX12_block_50 rfl hq (fun hc12 hq => ?_) (fun hc12 hq => ?_)
          · refine fr_iconst (pc := 66) dX12_block_66 (by decide) ?_
            refine fr_istore_n (ls2 := [(2, 142), (0, a1), (2, 150), (0, 0)]) (pc := 67) dX12_block_67 rfl (Nat.le_of_ble_eq_true rfl) rfl ?_
            refine fr_aload_n (pc := 68) dX12_block_68 rfl rfl ?_
            refine fr_dup (pc := 69) dX12_block_69 pm_t2 ?_
            refine fr_getf (a := 142) (i := 21) (v := gI M7 142 21) (t := 0) (pc := 70) dX12_block_70 rfl pf_12_217 rfl s0_142 rfl rfl ?_
            refine fr_iconst (pc := 73) dX12_block_73 (by decide) ?_
            refine fr_isub (z := w32 ((gI M7 142 21) - 1)) (pc := 74) dX12_block_74 rfl ?_
            refine fr_put (a := 142) (i := 21) (pc := 75) dX12_block_75 rfl pf_12_217 rfl s0_142 rfl rfl nf_142_21 rfl ?_
            refine fr_iload_n (pc := 78) dX12_block_78 rfl rfl ?_
            exact fr_iret (pc := 79) dX12_block_79 (Or.inr (Or.inl ⟨rfl, Or.inl rfl⟩)) hq
          · refine fr_aload_n (pc := 53) dX12_block_53 rfl rfl ?_
            refine fr_bipush (pc := 54) dX12_block_54 (by decide) ?_
            refine fr_inVI (a := 142) (as := [(0, 125)]) (rest := []) (ls' := [(2, 142), (0, 125)]) (c1 := 0) (c2 := c10) (pc := 56) dX12_block_56 pl_12_190 rfl ⟨Nat.le_of_ble_eq_true rfl, Nat.le_of_ble_eq_true rfl⟩ rfl rfl rfl s0_142 (Nat.le_of_ble_eq_true rfl) (by omega) rfl rfl (pm_zc _) (hq sc _ (by omega)) (fun r14 M13 hq => ?_)
            refine fr_ifc_eq (tg := 66) (pc := 59) dX12_block_59 rfl hq (fun hc15 hq => ?_) (fun hc15 hq => ?_)
            · refine fr_iconst (pc := 66) dX12_block_66 (by decide) ?_
              refine fr_istore_n (ls2 := [(2, 142), (0, a1), (2, 150), (0, 0)]) (pc := 67) dX12_block_67 rfl (Nat.le_of_ble_eq_true rfl) rfl ?_
              refine fr_aload_n (pc := 68) dX12_block_68 rfl rfl ?_
              refine fr_dup (pc := 69) dX12_block_69 pm_t2 ?_
              refine fr_getf (a := 142) (i := 21) (v := gI M13 142 21) (t := 0) (pc := 70) dX12_block_70 rfl pf_12_217 rfl s0_142 rfl rfl ?_
              refine fr_iconst (pc := 73) dX12_block_73 (by decide) ?_
              refine fr_isub (z := w32 ((gI M13 142 21) - 1)) (pc := 74) dX12_block_74 rfl ?_
              refine fr_put (a := 142) (i := 21) (pc := 75) dX12_block_75 rfl pf_12_217 rfl s0_142 rfl rfl nf_142_21 rfl ?_
              refine fr_iload_n (pc := 78) dX12_block_78 rfl rfl ?_
              exact fr_iret (pc := 79) dX12_block_79 (Or.inr (Or.inl ⟨rfl, Or.inl rfl⟩)) hq
            · refine fr_iconst (pc := 62) dX12_block_62 (by decide) ?_
              refine fr_goto (tg := 67) (pc := 63) dX12_block_63 rfl ?_
              refine fr_istore_n (ls2 := [(2, 142), (0, a1), (2, 150), (0, 1)]) (pc := 67) dX12_block_67 rfl (Nat.le_of_ble_eq_true rfl) rfl ?_
              refine fr_aload_n (pc := 68) dX12_block_68 rfl rfl ?_
              refine fr_dup (pc := 69) dX12_block_69 pm_t2 ?_
              refine fr_getf (a := 142) (i := 21) (v := gI M13 142 21) (t := 0) (pc := 70) dX12_block_70 rfl pf_12_217 rfl s0_142 rfl rfl ?_
              refine fr_iconst (pc := 73) dX12_block_73 (by decide) ?_
              refine fr_isub (z := w32 ((gI M13 142 21) - 1)) (pc := 74) dX12_block_74 rfl ?_
              refine fr_put (a := 142) (i := 21) (pc := 75) dX12_block_75 rfl pf_12_217 rfl s0_142 rfl rfl nf_142_21 rfl ?_
              refine fr_iload_n (pc := 78) dX12_block_78 rfl rfl ?_
              exact fr_iret (pc := 79) dX12_block_79 (Or.inr (Or.inl ⟨rfl, Or.inr rfl⟩)) hq
      · refine fr_iconst (pc := 20) dX12_is_20 (by decide) ?_
        refine fr_iret (pc := 21) dX12_is_21 (Or.inr (Or.inl ⟨rfl, Or.inl rfl⟩)) ?_
        refine fr_ifcF (tg := 15) (pc := 6) dX12_block_6 rfl rfl ?_
        refine fr_aload_n (pc := 9) dX12_block_9 rfl rfl ?_
        refine fr_iconst (pc := 10) dX12_block_10 (by decide) ?_
        refine fr_inVI (a := 142) (as := [(0, 1)]) (rest := []) (ls' := [(2, 142), (0, 1)]) (c1 := 0) (c2 := c) (pc := 11) dX12_block_11 pl_12_164 rfl ⟨Nat.le_of_ble_eq_true rfl, Nat.le_of_ble_eq_true rfl⟩ rfl rfl rfl s0_142 (Nat.le_of_ble_eq_true rfl) (by omega) rfl rfl (pm_zc _) ?_ (fun y M' h => h)
        refine fr_aload_n (pc := 0) dX12_bad_0 rfl rfl ?_
        refine fr_aload_n (pc := 1) dX12_bad_1 rfl rfl ?_
        refine fr_getf (a := 142) (i := 8) (v := gI M 142 8) (t := 0) (pc := 2) dX12_bad_2 rfl pf_12_158 rfl s0_142 rfl rfl ?_
        refine fr_ifc_ne (tg := 20) (pc := 5) dX12_bad_5 rfl hq (fun hc16 hq => ?_) (fun hc16 hq => ?_)
        · refine fr_bipush (pc := 8) dX12_bad_8 (by decide) ?_
          refine fr_aload_n (pc := 10) dX12_bad_10 rfl rfl ?_
          refine fr_getf (a := 142) (i := 4) (v := gI M 142 4) (t := 0) (pc := 11) dX12_bad_11 rfl pf_12_141 rfl s0_142 rfl rfl ?_
          refine fr_imul (z := w32 (8 * (gI M 142 4))) (pc := 14) dX12_bad_14 rfl ?_
          refine fr_iload_n (pc := 15) dX12_bad_15 rfl rfl ?_
          refine fr_iadd (z := w32 ((w32 (8 * (gI M 142 4))) + 1)) (pc := 16) dX12_bad_16 rfl ?_
          refine fr_goto (tg := 24) (pc := 17) dX12_bad_17 rfl ?_
          refine fr_put (a := 142) (i := 8) (pc := 24) dX12_bad_24 rfl pf_12_158 rfl s0_142 rfl rfl nf_142_8 rfl ?_
          refine fr_iconst (pc := 27) dX12_bad_27 (by decide) ?_
          refine fr_iret (pc := 28) dX12_bad_28 (Or.inr (Or.inl ⟨rfl, Or.inl rfl⟩)) ?_
          exact fr_iret (pc := 14) dX12_block_14 (Or.inr (Or.inl ⟨rfl, Or.inl rfl⟩)) hq
        · refine fr_aload_n (pc := 20) dX12_bad_20 rfl rfl ?_
          refine fr_getf (a := 142) (i := 8) (v := gI M 142 8) (t := 0) (pc := 21) dX12_bad_21 rfl pf_12_158 rfl s0_142 rfl rfl ?_
          refine fr_put (a := 142) (i := 8) (pc := 24) dX12_bad_24 rfl pf_12_158 rfl s0_142 rfl rfl nf_142_8 rfl ?_
          refine fr_iconst (pc := 27) dX12_bad_27 (by decide) ?_
          refine fr_iret (pc := 28) dX12_bad_28 (Or.inr (Or.inl ⟨rfl, Or.inl rfl⟩)) ?_
          exact fr_iret (pc := 14) dX12_block_14 (Or.inr (Or.inl ⟨rfl, Or.inl rfl⟩)) hq
    · refine fr_iconst (pc := 20) dX12_is_20 (by decide) ?_
      refine fr_iret (pc := 21) dX12_is_21 (Or.inr (Or.inl ⟨rfl, Or.inl rfl⟩)) ?_
      refine fr_ifcF (tg := 15) (pc := 6) dX12_block_6 rfl rfl ?_
      refine fr_aload_n (pc := 9) dX12_block_9 rfl rfl ?_
      refine fr_iconst (pc := 10) dX12_block_10 (by decide) ?_
      refine fr_inVI (a := 142) (as := [(0, 1)]) (rest := []) (ls' := [(2, 142), (0, 1)]) (c1 := 0) (c2 := c) (pc := 11) dX12_block_11 pl_12_164 rfl ⟨Nat.le_of_ble_eq_true rfl, Nat.le_of_ble_eq_true rfl⟩ rfl rfl rfl s0_142 (Nat.le_of_ble_eq_true rfl) (by omega) rfl rfl (pm_zc _) ?_ (fun y M' h => h)
      refine fr_aload_n (pc := 0) dX12_bad_0 rfl rfl ?_
      refine fr_aload_n (pc := 1) dX12_bad_1 rfl rfl ?_
      refine fr_getf (a := 142) (i := 8) (v := gI M 142 8) (t := 0) (pc := 2) dX12_bad_2 rfl pf_12_158 rfl s0_142 rfl rfl ?_
      refine fr_ifc_ne (tg := 20) (pc := 5) dX12_bad_5 rfl hq (fun hc17 hq => ?_) (fun hc17 hq => ?_)
      · refine fr_bipush (pc := 8) dX12_bad_8 (by decide) ?_
        refine fr_aload_n (pc := 10) dX12_bad_10 rfl rfl ?_
        refine fr_getf (a := 142) (i := 4) (v := gI M 142 4) (t := 0) (pc := 11) dX12_bad_11 rfl pf_12_141 rfl s0_142 rfl rfl ?_
        refine fr_imul (z := w32 (8 * (gI M 142 4))) (pc := 14) dX12_bad_14 rfl ?_
        refine fr_iload_n (pc := 15) dX12_bad_15 rfl rfl ?_
        refine fr_iadd (z := w32 ((w32 (8 * (gI M 142 4))) + 1)) (pc := 16) dX12_bad_16 rfl ?_
        refine fr_goto (tg := 24) (pc := 17) dX12_bad_17 rfl ?_
        refine fr_put (a := 142) (i := 8) (pc := 24) dX12_bad_24 rfl pf_12_158 rfl s0_142 rfl rfl nf_142_8 rfl ?_
        refine fr_iconst (pc := 27) dX12_bad_27 (by decide) ?_
        refine fr_iret (pc := 28) dX12_bad_28 (Or.inr (Or.inl ⟨rfl, Or.inl rfl⟩)) ?_
        exact fr_iret (pc := 14) dX12_block_14 (Or.inr (Or.inl ⟨rfl, Or.inl rfl⟩)) hq
      · refine fr_aload_n (pc := 20) dX12_bad_20 rfl rfl ?_
        refine fr_getf (a := 142) (i := 8) (v := gI M 142 8) (t := 0) (pc := 21) dX12_bad_21 rfl pf_12_158 rfl s0_142 rfl rfl ?_
        refine fr_put (a := 142) (i := 8) (pc := 24) dX12_bad_24 rfl pf_12_158 rfl s0_142 rfl rfl nf_142_8 rfl ?_
        refine fr_iconst (pc := 27) dX12_bad_27 (by decide) ?_
        refine fr_iret (pc := 28) dX12_bad_28 (Or.inr (Or.inl ⟨rfl, Or.inl rfl⟩)) ?_
        exact fr_iret (pc := 14) dX12_block_14 (Or.inr (Or.inl ⟨rfl, Or.inl rfl⟩)) hq
  · refine fr_aload_n (pc := 0) dX12_block_0 rfl rfl ?_
    refine fr_bipush (pc := 1) dX12_block_1 (by decide) ?_
    refine fr_inVI (a := 142) (as := [(0, 123)]) (rest := []) (ls' := [(2, 142), (0, 123)]) (c1 := 0) (c2 := c) (pc := 3) dX12_block_3 pl_12_161 rfl ⟨Nat.le_of_ble_eq_true rfl, Nat.le_of_ble_eq_true rfl⟩ rfl rfl rfl s0_142 (Nat.le_of_ble_eq_true rfl) (by omega) rfl rfl (pm_zc _) ?_ (fun y M' h => h)
    refine fr_aload_n (pc := 0) dX12_is_0 rfl rfl ?_
    refine fr_getf (a := 142) (i := 6) (v := gI M 142 6) (t := 0) (pc := 1) dX12_is_1 rfl pf_12_144 rfl s0_142 rfl rfl ?_
    refine fr_iconst (pc := 4) dX12_is_4 (by decide) ?_
    refine fr_icm_ne (tg := 20) (pc := 5) dX12_is_5 rfl hq (fun hc1 hq => ?_) (fun hc1 hq => ?_)
    · refine fr_aload_n (pc := 8) dX12_is_8 rfl rfl ?_
      refine fr_getf (a := 142) (i := 7) (v := gI M 142 7) (t := 0) (pc := 9) dX12_is_9 rfl pf_12_151 rfl s0_142 rfl rfl ?_
      refine fr_iload_n (pc := 12) dX12_is_12 rfl rfl ?_
      refine fr_icm_ne (tg := 20) (pc := 13) dX12_is_13 rfl hq (fun hc2 hq => ?_) (fun hc2 hq => ?_)
      · refine fr_iconst (pc := 16) dX12_is_16 (by decide) ?_
        refine fr_goto (tg := 21) (pc := 17) dX12_is_17 rfl ?_
        refine fr_iret (pc := 21) dX12_is_21 (Or.inr (Or.inl ⟨rfl, Or.inr rfl⟩)) ?_
        refine fr_ifcT (tg := 15) (pc := 6) dX12_block_6 rfl rfl ?_
        refine fr_aload_n (pc := 15) dX12_block_15 rfl rfl ?_
        refine fr_getf (a := 142) (i := 21) (v := gI M 142 21) (t := 0) (pc := 16) dX12_block_16 rfl pf_12_217 rfl s0_142 rfl rfl ?_
        refine fr_iconst (pc := 19) dX12_block_19 (by decide) ?_
        refine fr_icm_ne (tg := 29) (pc := 20) dX12_block_20 rfl hq (fun hc3 hq => ?_) (fun hc3 hq => ?_)
        · refine fr_aload_n (pc := 23) dX12_block_23 rfl rfl ?_
          refine fr_iconst (pc := 24) dX12_block_24 (by decide) ?_
          refine fr_inVI (a := 142) (as := [(0, 2)]) (rest := []) (ls' := [(2, 142), (0, 2)]) (c1 := 0) (c2 := c) (pc := 25) dX12_block_25 pl_12_164 rfl ⟨Nat.le_of_ble_eq_true rfl, Nat.le_of_ble_eq_true rfl⟩ rfl rfl rfl s0_142 (Nat.le_of_ble_eq_true rfl) (by omega) rfl rfl (pm_zc _) ?_ (fun y M' h => h)
          refine fr_aload_n (pc := 0) dX12_bad_0 rfl rfl ?_
          refine fr_aload_n (pc := 1) dX12_bad_1 rfl rfl ?_
          refine fr_getf (a := 142) (i := 8) (v := gI M 142 8) (t := 0) (pc := 2) dX12_bad_2 rfl pf_12_158 rfl s0_142 rfl rfl ?_
          refine fr_ifc_ne (tg := 20) (pc := 5) dX12_bad_5 rfl hq (fun hc4 hq => ?_) (fun hc4 hq => ?_)
          · refine fr_bipush (pc := 8) dX12_bad_8 (by decide) ?_
            refine fr_aload_n (pc := 10) dX12_bad_10 rfl rfl ?_
            refine fr_getf (a := 142) (i := 4) (v := gI M 142 4) (t := 0) (pc := 11) dX12_bad_11 rfl pf_12_141 rfl s0_142 rfl rfl ?_
            refine fr_imul (z := w32 (8 * (gI M 142 4))) (pc := 14) dX12_bad_14 rfl ?_
            refine fr_iload_n (pc := 15) dX12_bad_15 rfl rfl ?_
            refine fr_iadd (z := w32 ((w32 (8 * (gI M 142 4))) + 2)) (pc := 16) dX12_bad_16 rfl ?_
            refine fr_goto (tg := 24) (pc := 17) dX12_bad_17 rfl ?_
            refine fr_put (a := 142) (i := 8) (pc := 24) dX12_bad_24 rfl pf_12_158 rfl s0_142 rfl rfl nf_142_8 rfl ?_
            refine fr_iconst (pc := 27) dX12_bad_27 (by decide) ?_
            refine fr_iret (pc := 28) dX12_bad_28 (Or.inr (Or.inl ⟨rfl, Or.inl rfl⟩)) ?_
            exact fr_iret (pc := 28) dX12_block_28 (Or.inr (Or.inl ⟨rfl, Or.inl rfl⟩)) hq
          · refine fr_aload_n (pc := 20) dX12_bad_20 rfl rfl ?_
            refine fr_getf (a := 142) (i := 8) (v := gI M 142 8) (t := 0) (pc := 21) dX12_bad_21 rfl pf_12_158 rfl s0_142 rfl rfl ?_
            refine fr_put (a := 142) (i := 8) (pc := 24) dX12_bad_24 rfl pf_12_158 rfl s0_142 rfl rfl nf_142_8 rfl ?_
            refine fr_iconst (pc := 27) dX12_bad_27 (by decide) ?_
            refine fr_iret (pc := 28) dX12_bad_28 (Or.inr (Or.inl ⟨rfl, Or.inl rfl⟩)) ?_
            exact fr_iret (pc := 28) dX12_block_28 (Or.inr (Or.inl ⟨rfl, Or.inl rfl⟩)) hq
        · refine fr_aload_n (pc := 29) dX12_block_29 rfl rfl ?_
          refine fr_dup (pc := 30) dX12_block_30 pm_t2 ?_
          refine fr_getf (a := 142) (i := 21) (v := gI M 142 21) (t := 0) (pc := 31) dX12_block_31 rfl pf_12_217 rfl s0_142 rfl rfl ?_
          refine fr_iconst (pc := 34) dX12_block_34 (by decide) ?_
          refine fr_iadd (z := w32 ((gI M 142 21) + 1)) (pc := 35) dX12_block_35 rfl ?_
          refine fr_put (a := 142) (i := 21) (pc := 36) dX12_block_36 rfl pf_12_217 rfl s0_142 rfl rfl nf_142_21 rfl ?_
          refine fr_aload_n (pc := 39) dX12_block_39 rfl rfl ?_
          refine fr_inVV (a := 142) (as := []) (rest := []) (ls' := [(2, 142), (9, 0)]) (c1 := 0) (c2 := c) (pc := 40) dX12_block_40 pl_12_167 rfl ⟨Nat.le_of_ble_eq_true rfl, Nat.le_of_ble_eq_true rfl⟩ rfl rfl rfl s0_142 (Nat.le_of_ble_eq_true rfl) (by omega) rfl rfl (pm_zc _) (hq sc _ (by omega)) (fun M5 hq => ?_)
          refine fr_aload_n (pc := 43) dX12_block_43 rfl rfl ?_
          refine fr_iload_n (pc := 44) dX12_block_44 rfl rfl ?_
          refine fr_aload_n (pc := 45) dX12_block_45 rfl rfl ?_
          refine fr_iconst (pc := 46) dX12_block_46 (by decide) ?_
          obtain ⟨c9, c10, hcc11, hq⟩ := hq
          refine fr_inVI (a := 142) (as := [(0, a1), (2, 151), (0, 1)]) (rest := []) (ls' := [(2, 142), (0, a1), (2, 151), (0, 1), (9, 0), (9, 0), (9, 0)]) (c1 := c9) (c2 := c10) (pc := 47) dX12_block_47 pl_12_220 rfl ⟨Nat.le_of_ble_eq_true rfl, Nat.le_of_ble_eq_true rfl⟩ rfl rfl rfl s0_142 (Nat.le_of_ble_eq_true rfl) (by omega) rfl rfl hcc11 (hq sc _ (by omega)) (fun r8 M7 hq => ?_)
          refine fr_ifc_eq (tg := 66) (pc := 50) dX12_block_50 rfl hq (fun hc12 hq => ?_) (fun hc12 hq => ?_)
          · refine fr_iconst (pc := 66) dX12_block_66 (by decide) ?_
            refine fr_istore_n (ls2 := [(2, 142), (0, a1), (2, 151), (0, 0)]) (pc := 67) dX12_block_67 rfl (Nat.le_of_ble_eq_true rfl) rfl ?_
            refine fr_aload_n (pc := 68) dX12_block_68 rfl rfl ?_
            refine fr_dup (pc := 69) dX12_block_69 pm_t2 ?_
            refine fr_getf (a := 142) (i := 21) (v := gI M7 142 21) (t := 0) (pc := 70) dX12_block_70 rfl pf_12_217 rfl s0_142 rfl rfl ?_
            refine fr_iconst (pc := 73) dX12_block_73 (by decide) ?_
            refine fr_isub (z := w32 ((gI M7 142 21) - 1)) (pc := 74) dX12_block_74 rfl ?_
            refine fr_put (a := 142) (i := 21) (pc := 75) dX12_block_75 rfl pf_12_217 rfl s0_142 rfl rfl nf_142_21 rfl ?_
            refine fr_iload_n (pc := 78) dX12_block_78 rfl rfl ?_
            exact fr_iret (pc := 79) dX12_block_79 (Or.inr (Or.inl ⟨rfl, Or.inl rfl⟩)) hq
          · refine fr_aload_n (pc := 53) dX12_block_53 rfl rfl ?_
            refine fr_bipush (pc := 54) dX12_block_54 (by decide) ?_
            refine fr_inVI (a := 142) (as := [(0, 125)]) (rest := []) (ls' := [(2, 142), (0, 125)]) (c1 := 0) (c2 := c10) (pc := 56) dX12_block_56 pl_12_190 rfl ⟨Nat.le_of_ble_eq_true rfl, Nat.le_of_ble_eq_true rfl⟩ rfl rfl rfl s0_142 (Nat.le_of_ble_eq_true rfl) (by omega) rfl rfl (pm_zc _) (hq sc _ (by omega)) (fun r14 M13 hq => ?_)
            refine fr_ifc_eq (tg := 66) (pc := 59) dX12_block_59 rfl hq (fun hc15 hq => ?_) (fun hc15 hq => ?_)
            · refine fr_iconst (pc := 66) dX12_block_66 (by decide) ?_
              refine fr_istore_n (ls2 := [(2, 142), (0, a1), (2, 151), (0, 0)]) (pc := 67) dX12_block_67 rfl (Nat.le_of_ble_eq_true rfl) rfl ?_
              refine fr_aload_n (pc := 68) dX12_block_68 rfl rfl ?_
              refine fr_dup (pc := 69) dX12_block_69 pm_t2 ?_
              refine fr_getf (a := 142) (i := 21) (v := gI M13 142 21) (t := 0) (pc := 70) dX12_block_70 rfl pf_12_217 rfl s0_142 rfl rfl ?_
              refine fr_iconst (pc := 73) dX12_block_73 (by decide) ?_
              refine fr_isub (z := w32 ((gI M13 142 21) - 1)) (pc := 74) dX12_block_74 rfl ?_
              refine fr_put (a := 142) (i := 21) (pc := 75) dX12_block_75 rfl pf_12_217 rfl s0_142 rfl rfl nf_142_21 rfl ?_
              refine fr_iload_n (pc := 78) dX12_block_78 rfl rfl ?_
              exact fr_iret (pc := 79) dX12_block_79 (Or.inr (Or.inl ⟨rfl, Or.inl rfl⟩)) hq
            · refine fr_iconst (pc := 62) dX12_block_62 (by decide) ?_
              refine fr_goto (tg := 67) (pc := 63) dX12_block_63 rfl ?_
              refine fr_istore_n (ls2 := [(2, 142), (0, a1), (2, 151), (0, 1)]) (pc := 67) dX12_block_67 rfl (Nat.le_of_ble_eq_true rfl) rfl ?_
              refine fr_aload_n (pc := 68) dX12_block_68 rfl rfl ?_
              refine fr_dup (pc := 69) dX12_block_69 pm_t2 ?_
              refine fr_getf (a := 142) (i := 21) (v := gI M13 142 21) (t := 0) (pc := 70) dX12_block_70 rfl pf_12_217 rfl s0_142 rfl rfl ?_
              refine fr_iconst (pc := 73) dX12_block_73 (by decide) ?_
              refine fr_isub (z := w32 ((gI M13 142 21) - 1)) (pc := 74) dX12_block_74 rfl ?_
              refine fr_put (a := 142) (i := 21) (pc := 75) dX12_block_75 rfl pf_12_217 rfl s0_142 rfl rfl nf_142_21 rfl ?_
              refine fr_iload_n (pc := 78) dX12_block_78 rfl rfl ?_
              exact fr_iret (pc := 79) dX12_block_79 (Or.inr (Or.inl ⟨rfl, Or.inr rfl⟩)) hq
      · refine fr_iconst (pc := 20) dX12_is_20 (by decide) ?_
        refine fr_iret (pc := 21) dX12_is_21 (Or.inr (Or.inl ⟨rfl, Or.inl rfl⟩)) ?_
        refine fr_ifcF (tg := 15) (pc := 6) dX12_block_6 rfl rfl ?_
        refine fr_aload_n (pc := 9) dX12_block_9 rfl rfl ?_
        refine fr_iconst (pc := 10) dX12_block_10 (by decide) ?_
        refine fr_inVI (a := 142) (as := [(0, 1)]) (rest := []) (ls' := [(2, 142), (0, 1)]) (c1 := 0) (c2 := c) (pc := 11) dX12_block_11 pl_12_164 rfl ⟨Nat.le_of_ble_eq_true rfl, Nat.le_of_ble_eq_true rfl⟩ rfl rfl rfl s0_142 (Nat.le_of_ble_eq_true rfl) (by omega) rfl rfl (pm_zc _) ?_ (fun y M' h => h)
        refine fr_aload_n (pc := 0) dX12_bad_0 rfl rfl ?_
        refine fr_aload_n (pc := 1) dX12_bad_1 rfl rfl ?_
        refine fr_getf (a := 142) (i := 8) (v := gI M 142 8) (t := 0) (pc := 2) dX12_bad_2 rfl pf_12_158 rfl s0_142 rfl rfl ?_
        refine fr_ifc_ne (tg := 20) (pc := 5) dX12_bad_5 rfl hq (fun hc16 hq => ?_) (fun hc16 hq => ?_)
        · refine fr_bipush (pc := 8) dX12_bad_8 (by decide) ?_
          refine fr_aload_n (pc := 10) dX12_bad_10 rfl rfl ?_
          refine fr_getf (a := 142) (i := 4) (v := gI M 142 4) (t := 0) (pc := 11) dX12_bad_11 rfl pf_12_141 rfl s0_142 rfl rfl ?_
          refine fr_imul (z := w32 (8 * (gI M 142 4))) (pc := 14) dX12_bad_14 rfl ?_
          refine fr_iload_n (pc := 15) dX12_bad_15 rfl rfl ?_
          refine fr_iadd (z := w32 ((w32 (8 * (gI M 142 4))) + 1)) (pc := 16) dX12_bad_16 rfl ?_
          refine fr_goto (tg := 24) (pc := 17) dX12_bad_17 rfl ?_
          refine fr_put (a := 142) (i := 8) (pc := 24) dX12_bad_24 rfl pf_12_158 rfl s0_142 rfl rfl nf_142_8 rfl ?_
          refine fr_iconst (pc := 27) dX12_bad_27 (by decide) ?_
          refine fr_iret (pc := 28) dX12_bad_28 (Or.inr (Or.inl ⟨rfl, Or.inl rfl⟩)) ?_
          exact fr_iret (pc := 14) dX12_block_14 (Or.inr (Or.inl ⟨rfl, Or.inl rfl⟩)) hq
        · refine fr_aload_n (pc := 20) dX12_bad_20 rfl rfl ?_
          refine fr_getf (a := 142) (i := 8) (v := gI M 142 8) (t := 0) (pc := 21) dX12_bad_21 rfl pf_12_158 rfl s0_142 rfl rfl ?_
          refine fr_put (a := 142) (i := 8) (pc := 24) dX12_bad_24 rfl pf_12_158 rfl s0_142 rfl rfl nf_142_8 rfl ?_
          refine fr_iconst (pc := 27) dX12_bad_27 (by decide) ?_
          refine fr_iret (pc := 28) dX12_bad_28 (Or.inr (Or.inl ⟨rfl, Or.inl rfl⟩)) ?_
          exact fr_iret (pc := 14) dX12_block_14 (Or.inr (Or.inl ⟨rfl, Or.inl rfl⟩)) hq
    · refine fr_iconst (pc := 20) dX12_is_20 (by decide) ?_
      refine fr_iret (pc := 21) dX12_is_21 (Or.inr (Or.inl ⟨rfl, Or.inl rfl⟩)) ?_
      refine fr_ifcF (tg := 15) (pc := 6) dX12_block_6 rfl rfl ?_
      refine fr_aload_n (pc := 9) dX12_block_9 rfl rfl ?_
      refine fr_iconst (pc := 10) dX12_block_10 (by decide) ?_
      refine fr_inVI (a := 142) (as := [(0, 1)]) (rest := []) (ls' := [(2, 142), (0, 1)]) (c1 := 0) (c2 := c) (pc := 11) dX12_block_11 pl_12_164 rfl ⟨Nat.le_of_ble_eq_true rfl, Nat.le_of_ble_eq_true rfl⟩ rfl rfl rfl s0_142 (Nat.le_of_ble_eq_true rfl) (by omega) rfl rfl (pm_zc _) ?_ (fun y M' h => h)
      refine fr_aload_n (pc := 0) dX12_bad_0 rfl rfl ?_
      refine fr_aload_n (pc := 1) dX12_bad_1 rfl rfl ?_
      refine fr_getf (a := 142) (i := 8) (v := gI M 142 8) (t := 0) (pc := 2) dX12_bad_2 rfl pf_12_158 rfl s0_142 rfl rfl ?_
      refine fr_ifc_ne (tg := 20) (pc := 5) dX12_bad_5 rfl hq (fun hc17 hq => ?_) (fun hc17 hq => ?_)
      · refine fr_bipush (pc := 8) dX12_bad_8 (by decide) ?_
        refine fr_aload_n (pc := 10) dX12_bad_10 rfl rfl ?_
        refine fr_getf (a := 142) (i := 4) (v := gI M 142 4) (t := 0) (pc := 11) dX12_bad_11 rfl pf_12_141 rfl s0_142 rfl rfl ?_
        refine fr_imul (z := w32 (8 * (gI M 142 4))) (pc := 14) dX12_bad_14 rfl ?_
        refine fr_iload_n (pc := 15) dX12_bad_15 rfl rfl ?_
        refine fr_iadd (z := w32 ((w32 (8 * (gI M 142 4))) + 1)) (pc := 16) dX12_bad_16 rfl ?_
        refine fr_goto (tg := 24) (pc := 17) dX12_bad_17 rfl ?_
        refine fr_put (a := 142) (i := 8) (pc := 24) dX12_bad_24 rfl pf_12_158 rfl s0_142 rfl rfl nf_142_8 rfl ?_
        refine fr_iconst (pc := 27) dX12_bad_27 (by decide) ?_
        refine fr_iret (pc := 28) dX12_bad_28 (Or.inr (Or.inl ⟨rfl, Or.inl rfl⟩)) ?_
        exact fr_iret (pc := 14) dX12_block_14 (Or.inr (Or.inl ⟨rfl, Or.inl rfl⟩)) hq
      · refine fr_aload_n (pc := 20) dX12_bad_20 rfl rfl ?_
        refine fr_getf (a := 142) (i := 8) (v := gI M 142 8) (t := 0) (pc := 21) dX12_bad_21 rfl pf_12_158 rfl s0_142 rfl rfl ?_
        refine fr_put (a := 142) (i := 8) (pc := 24) dX12_bad_24 rfl pf_12_158 rfl s0_142 rfl rfl nf_142_8 rfl ?_
        refine fr_iconst (pc := 27) dX12_bad_27 (by decide) ?_
        refine fr_iret (pc := 28) dX12_bad_28 (Or.inr (Or.inl ⟨rfl, Or.inl rfl⟩)) ?_
        exact fr_iret (pc := 14) dX12_block_14 (Or.inr (Or.inl ⟨rfl, Or.inl rfl⟩)) hq
theorem k12_tests_r {c : Nat} {a1 : Int} {M : pm_M} {K : Int → pm_M → Prop} (hq : (if a1 < 0 then K (-1) (upI M 142 0 0) else (if a1 ≤ gI M 142 2 then k12_go (upI (upI (upI (upI (upI M 142 0 0) 142 3 a1) 142 2 0) 142 5 0) 142 8 0) (fun M3 => (∃ c7 c8 : Nat, c7 + c8 ≤ c ∧ k12_testLine c7 0 M3 (fun r6 M5 => k12_tests_51 c8 0 r6 M5 K))) else K (-1) (upI M 142 0 0)))) : k12_tests c a1 M K := by
  intro sc d hd
  refine fr_aload_n (pc := 0) dX12_tests_0 rfl rfl ?_
  refine fr_iconst (pc := 1) dX12_tests_1 (by decide) ?_
  refine fr_put (a := 142) (i := 0) (pc := 2) dX12_tests_2 rfl pf_12_121 rfl s0_142 rfl rfl nf_142_0 rfl ?_
  refine fr_iload_n (pc := 5) dX12_tests_5 rfl rfl ?_
  refine fr_iconst (pc := 6) dX12_tests_6 (by decide) ?_
  refine fr_aload_n (pc := 7) dX12_tests_7 rfl rfl ?_
  refine fr_getf (a := 142) (i := 2) (v := gI M 142 2) (t := 0) (pc := 8) dX12_tests_8 rfl pf_12_124 rfl s0_142 rfl (gI_nf _ _ (by decide)) ?_
  refine fr_inSI (as := [(0, a1), (0, 0), (0, gI M 142 2)]) (rest := []) (ls' := [(0, a1), (0, 0), (0, gI M 142 2)]) (c1 := 0) (c2 := c) (pc := 11) dX12_tests_11 pl_12_147 rfl ⟨Nat.le_of_ble_eq_true rfl, Nat.le_of_ble_eq_true rfl⟩ rfl rfl  (by omega) rfl rfl (pm_zc _) ?_ (fun y M' h => h)
  refine fr_iload_n (pc := 0) dX12_within_0 rfl rfl ?_
  refine fr_iload_n (pc := 1) dX12_within_1 rfl rfl ?_
  refine fr_icm_lt (tg := 14) (pc := 2) dX12_within_2 rfl hq (fun hc1 hq => ?_) (fun hc1 hq => ?_)
  · refine fr_iconst (pc := 14) dX12_within_14 (by decide) ?_
    refine fr_iret (pc := 15) dX12_within_15 (Or.inr (Or.inl ⟨rfl, Or.inl rfl⟩)) ?_
    refine fr_ifcF (tg := 19) (pc := 14) dX12_tests_14 rfl rfl ?_
    refine fr_iconst (pc := 17) dX12_tests_17 (by decide) ?_
    exact fr_iret (pc := 18) dX12_tests_18 (Or.inl rfl) hq
  · refine fr_iload_n (pc := 5) dX12_within_5 rfl rfl ?_
    refine fr_iload_n (pc := 6) dX12_within_6 rfl rfl ?_
    refine fr_icm_gt (tg := 14) (pc := 7) dX12_within_7 rfl hq (fun hc2 hq => ?_) (fun hc2 hq => ?_)
    · refine fr_iconst (pc := 10) dX12_within_10 (by decide) ?_
      refine fr_goto (tg := 15) (pc := 11) dX12_within_11 rfl ?_
      refine fr_iret (pc := 15) dX12_within_15 (Or.inr (Or.inl ⟨rfl, Or.inr rfl⟩)) ?_
      refine fr_ifcT (tg := 19) (pc := 14) dX12_tests_14 rfl rfl ?_
      refine fr_aload_n (pc := 19) dX12_tests_19 rfl rfl ?_
      refine fr_iload_n (pc := 20) dX12_tests_20 rfl rfl ?_
      refine fr_put (a := 142) (i := 3) (pc := 21) dX12_tests_21 rfl pf_12_131 rfl s0_142 rfl rfl nf_142_3 rfl ?_
      refine fr_aload_n (pc := 24) dX12_tests_24 rfl rfl ?_
      refine fr_iconst (pc := 25) dX12_tests_25 (by decide) ?_
      refine fr_put (a := 142) (i := 2) (pc := 26) dX12_tests_26 rfl pf_12_124 rfl s0_142 rfl rfl nf_142_2 rfl ?_
      refine fr_aload_n (pc := 29) dX12_tests_29 rfl rfl ?_
      refine fr_iconst (pc := 30) dX12_tests_30 (by decide) ?_
      refine fr_put (a := 142) (i := 5) (pc := 31) dX12_tests_31 rfl pf_12_134 rfl s0_142 rfl rfl nf_142_5 rfl ?_
      refine fr_aload_n (pc := 34) dX12_tests_34 rfl rfl ?_
      refine fr_iconst (pc := 35) dX12_tests_35 (by decide) ?_
      refine fr_put (a := 142) (i := 8) (pc := 36) dX12_tests_36 rfl pf_12_158 rfl s0_142 rfl rfl nf_142_8 rfl ?_
      refine fr_aload_n (pc := 39) dX12_tests_39 rfl rfl ?_
      refine fr_inVV (a := 142) (as := []) (rest := []) (ls' := [(2, 142), (9, 0)]) (c1 := 0) (c2 := c) (pc := 40) dX12_tests_40 pl_12_167 rfl ⟨Nat.le_of_ble_eq_true rfl, Nat.le_of_ble_eq_true rfl⟩ rfl rfl rfl s0_142 (Nat.le_of_ble_eq_true rfl) (by omega) rfl rfl (pm_zc _) (hq sc _ (by omega)) (fun M3 hq => ?_)
      refine fr_iconst (pc := 43) dX12_tests_43 (by decide) ?_
      refine fr_istore_n (ls2 := [(2, 142), (0, a1), (0, 0), (9, 0), (9, 0)]) (pc := 44) dX12_tests_44 rfl (Nat.le_of_ble_eq_true rfl) rfl ?_
      refine fr_aload_n (pc := 45) dX12_tests_45 rfl rfl ?_
      refine fr_iconst (pc := 46) dX12_tests_46 (by decide) ?_
      obtain ⟨c7, c8, hcc9, hq⟩ := hq
      refine fr_inVI (a := 142) (as := [(0, 0)]) (rest := []) (ls' := [(2, 142), (0, 0), (9, 0), (9, 0)]) (c1 := c7) (c2 := c8) (pc := 47) dX12_tests_47 pl_12_243 rfl ⟨Nat.le_of_ble_eq_true rfl, Nat.le_of_ble_eq_true rfl⟩ rfl rfl rfl s0_142 (Nat.le_of_ble_eq_true rfl) (by omega) rfl rfl hcc9 (hq sc _ (by omega)) (fun r6 M5 hq => ?_)
      refine fr_istore_n (ls2 := [(2, 142), (0, a1), (0, 0), (0, r6), (9, 0)]) (pc := 50) dX12_tests_50 rfl (Nat.le_of_ble_eq_true rfl) rfl ?_
      exact hq sc d hd (0, a1) pm_t0 (9, 0) pm_t9
    · refine fr_iconst (pc := 14) dX12_within_14 (by decide) ?_
      refine fr_iret (pc := 15) dX12_within_15 (Or.inr (Or.inl ⟨rfl, Or.inl rfl⟩)) ?_
      refine fr_ifcF (tg := 19) (pc := 14) dX12_tests_14 rfl rfl ?_
      refine fr_iconst (pc := 17) dX12_tests_17 (by decide) ?_
      exact fr_iret (pc := 18) dX12_tests_18 (Or.inl rfl) hq
theorem k12_tests_51_r {c : Nat} {l2 l3 : Int} {M : pm_M} {K : Int → pm_M → Prop} (hq : (if l3 = 0 then K (w32 ((-2) - (gI M 142 8))) M else (if gI M 142 6 = 3 then (if gI M 142 7 = 59 then k12_go M (fun M4 => (∃ c8 c9 : Nat, c8 + c9 ≤ c ∧ k12_testLine c8 (w32 (l2 + 1)) M4 (fun r7 M6 => k12_tests_51 c9 (w32 (l2 + 1)) r7 M6 K))) else (if gI M 142 6 = 0 then k12_tests_119 c 0 (upI M 142 24 (w32 (l2 + 1))) K else (if gI M 142 8 = 0 then K (w32 ((-2) - (w32 ((w32 (8 * (gI M 142 4))) + 1)))) (upI M 142 8 (w32 ((w32 (8 * (gI M 142 4))) + 1))) else K (w32 ((-2) - (gI M 142 8))) (upI M 142 8 (gI M 142 8))))) else (if gI M 142 6 = 0 then k12_tests_119 c 0 (upI M 142 24 (w32 (l2 + 1))) K else (if gI M 142 8 = 0 then K (w32 ((-2) - (w32 ((w32 (8 * (gI M 142 4))) + 1)))) (upI M 142 8 (w32 ((w32 (8 * (gI M 142 4))) + 1))) else K (w32 ((-2) - (gI M 142 8))) (upI M 142 8 (gI M 142 8))))))) : k12_tests_51 c l2 l3 M K := by
  intro sc d hd z1 hz1 z4 hz4
  refine fr_iload_n (pc := 51) dX12_tests_51 rfl rfl ?_
  refine fr_ifc_eq (tg := 80) (pc := 52) dX12_tests_52 rfl hq (fun hc1 hq => ?_) (fun hc1 hq => ?_)
  · refine fr_iload_n (pc := 80) dX12_tests_80 rfl rfl ?_
    refine fr_ifcT (tg := 97) (pc := 81) dX12_tests_81 (decide_eq_true hc1) rfl ?_
    refine fr_iload_n (pc := 97) dX12_tests_97 rfl rfl ?_
    refine fr_ifcF (tg := 109) (pc := 98) dX12_tests_98 (decide_eq_false (fun z => z hc1)) rfl ?_
    refine fr_bipush (pc := 101) dX12_tests_101 (by decide) ?_
    refine fr_aload_n (pc := 103) dX12_tests_103 rfl rfl ?_
    refine fr_getf (a := 142) (i := 8) (v := gI M 142 8) (t := 0) (pc := 104) dX12_tests_104 rfl pf_12_158 rfl s0_142 rfl rfl ?_
    refine fr_isub (z := w32 ((-2) - (gI M 142 8))) (pc := 107) dX12_tests_107 rfl ?_
    exact fr_iret (pc := 108) dX12_tests_108 (Or.inl rfl) hq
  · refine fr_aload_n (pc := 55) dX12_tests_55 rfl rfl ?_
    refine fr_bipush (pc := 56) dX12_tests_56 (by decide) ?_
    refine fr_inVI (a := 142) (as := [(0, 59)]) (rest := []) (ls' := [(2, 142), (0, 59)]) (c1 := 0) (c2 := c) (pc := 58) dX12_tests_58 pl_12_161 rfl ⟨Nat.le_of_ble_eq_true rfl, Nat.le_of_ble_eq_true rfl⟩ rfl rfl rfl s0_142 (Nat.le_of_ble_eq_true rfl) (by omega) rfl rfl (pm_zc _) ?_ (fun y M' h => h)
    refine fr_aload_n (pc := 0) dX12_is_0 rfl rfl ?_
    refine fr_getf (a := 142) (i := 6) (v := gI M 142 6) (t := 0) (pc := 1) dX12_is_1 rfl pf_12_144 rfl s0_142 rfl rfl ?_
    refine fr_iconst (pc := 4) dX12_is_4 (by decide) ?_
    refine fr_icm_ne (tg := 20) (pc := 5) dX12_is_5 rfl hq (fun hc2 hq => ?_) (fun hc2 hq => ?_)
    · refine fr_aload_n (pc := 8) dX12_is_8 rfl rfl ?_
      refine fr_getf (a := 142) (i := 7) (v := gI M 142 7) (t := 0) (pc := 9) dX12_is_9 rfl pf_12_151 rfl s0_142 rfl rfl ?_
      refine fr_iload_n (pc := 12) dX12_is_12 rfl rfl ?_
      refine fr_icm_ne (tg := 20) (pc := 13) dX12_is_13 rfl hq (fun hc3 hq => ?_) (fun hc3 hq => ?_)
      · refine fr_iconst (pc := 16) dX12_is_16 (by decide) ?_
        refine fr_goto (tg := 21) (pc := 17) dX12_is_17 rfl ?_
        refine fr_iret (pc := 21) dX12_is_21 (Or.inr (Or.inl ⟨rfl, Or.inr rfl⟩)) ?_
        refine fr_ifcF (tg := 80) (pc := 61) dX12_tests_61 rfl rfl ?_
        refine fr_iinc (z := w32 (l2 + 1)) (ls2 := [(2, 142), z1, (0, w32 (l2 + 1)), (0, l3), z4]) (pc := 64) dX12_tests_64 (Nat.le_of_ble_eq_true rfl) rfl rfl (pm_st1z hz1 rfl rfl) ?_
        refine fr_aload_n (pc := 67) dX12_tests_67 rfl rfl ?_
        refine fr_inVV (a := 142) (as := []) (rest := []) (ls' := [(2, 142), (9, 0)]) (c1 := 0) (c2 := c) (pc := 68) dX12_tests_68 pl_12_167 rfl ⟨Nat.le_of_ble_eq_true rfl, Nat.le_of_ble_eq_true rfl⟩ rfl rfl rfl s0_142 (Nat.le_of_ble_eq_true rfl) (by omega) rfl rfl (pm_zc _) (hq sc _ (by omega)) (fun M4 hq => ?_)
        refine fr_aload_n (pc := 71) dX12_tests_71 rfl rfl ?_
        refine fr_iload_n (pc := 72) dX12_tests_72 rfl rfl ?_
        obtain ⟨c8, c9, hcc10, hq⟩ := hq
        refine fr_inVI (a := 142) (as := [(0, w32 (l2 + 1))]) (rest := []) (ls' := [(2, 142), (0, w32 (l2 + 1)), (9, 0), (9, 0)]) (c1 := c8) (c2 := c9) (pc := 73) dX12_tests_73 pl_12_243 rfl ⟨Nat.le_of_ble_eq_true rfl, Nat.le_of_ble_eq_true rfl⟩ rfl rfl rfl s0_142 (Nat.le_of_ble_eq_true rfl) (by omega) rfl rfl hcc10 (hq sc _ (by omega)) (fun r7 M6 hq => ?_)
        refine fr_istore_n (ls2 := [(2, 142), z1, (0, w32 (l2 + 1)), (0, r7), z4]) (pc := 76) dX12_tests_76 rfl (Nat.le_of_ble_eq_true rfl) rfl ?_
        refine fr_goto (tg := 51) (pc := 77) dX12_tests_77 rfl ?_
        exact hq sc d hd z1 hz1 z4 hz4
      · refine fr_iconst (pc := 20) dX12_is_20 (by decide) ?_
        refine fr_iret (pc := 21) dX12_is_21 (Or.inr (Or.inl ⟨rfl, Or.inl rfl⟩)) ?_
        refine fr_ifcT (tg := 80) (pc := 61) dX12_tests_61 rfl rfl ?_
        refine fr_iload_n (pc := 80) dX12_tests_80 rfl rfl ?_
        refine fr_ifcF (tg := 97) (pc := 81) dX12_tests_81 (decide_eq_false hc1) rfl ?_
        refine fr_aload_n (pc := 84) dX12_tests_84 rfl rfl ?_
        refine fr_getf (a := 142) (i := 6) (v := gI M 142 6) (t := 0) (pc := 85) dX12_tests_85 rfl pf_12_144 rfl s0_142 rfl rfl ?_
        refine fr_ifc_eq (tg := 97) (pc := 88) dX12_tests_88 rfl hq (fun hc11 hq => ?_) (fun hc11 hq => ?_)
        · refine fr_iload_n (pc := 97) dX12_tests_97 rfl rfl ?_
          refine fr_ifcT (tg := 109) (pc := 98) dX12_tests_98 (decide_eq_true hc1) rfl ?_
          refine fr_aload_n (pc := 109) dX12_tests_109 rfl rfl ?_
          refine fr_iload_n (pc := 110) dX12_tests_110 rfl rfl ?_
          refine fr_iconst (pc := 111) dX12_tests_111 (by decide) ?_
          refine fr_iadd (z := w32 (l2 + 1)) (pc := 112) dX12_tests_112 rfl ?_
          refine fr_put (a := 142) (i := 24) (pc := 113) dX12_tests_113 rfl pf_12_246 rfl s0_142 rfl rfl nf_142_24 rfl ?_
          refine fr_iconst (pc := 116) dX12_tests_116 (by decide) ?_
          refine fr_istore (ls2 := [(2, 142), z1, (0, l2), (0, l3), (0, 0)]) (pc := 117) dX12_tests_117 rfl (Nat.le_of_ble_eq_true rfl) rfl ?_
          exact hq sc d hd z1 hz1 (0, l2) pm_t0 (0, l3) pm_t0
        · refine fr_aload_n (pc := 91) dX12_tests_91 rfl rfl ?_
          refine fr_iconst (pc := 92) dX12_tests_92 (by decide) ?_
          refine fr_inVI (a := 142) (as := [(0, 1)]) (rest := []) (ls' := [(2, 142), (0, 1)]) (c1 := 0) (c2 := c) (pc := 93) dX12_tests_93 pl_12_164 rfl ⟨Nat.le_of_ble_eq_true rfl, Nat.le_of_ble_eq_true rfl⟩ rfl rfl rfl s0_142 (Nat.le_of_ble_eq_true rfl) (by omega) rfl rfl (pm_zc _) ?_ (fun y M' h => h)
          refine fr_aload_n (pc := 0) dX12_bad_0 rfl rfl ?_
          refine fr_aload_n (pc := 1) dX12_bad_1 rfl rfl ?_
          refine fr_getf (a := 142) (i := 8) (v := gI M 142 8) (t := 0) (pc := 2) dX12_bad_2 rfl pf_12_158 rfl s0_142 rfl rfl ?_
          refine fr_ifc_ne (tg := 20) (pc := 5) dX12_bad_5 rfl hq (fun hc12 hq => ?_) (fun hc12 hq => ?_)
          · refine fr_bipush (pc := 8) dX12_bad_8 (by decide) ?_
            refine fr_aload_n (pc := 10) dX12_bad_10 rfl rfl ?_
            refine fr_getf (a := 142) (i := 4) (v := gI M 142 4) (t := 0) (pc := 11) dX12_bad_11 rfl pf_12_141 rfl s0_142 rfl rfl ?_
            refine fr_imul (z := w32 (8 * (gI M 142 4))) (pc := 14) dX12_bad_14 rfl ?_
            refine fr_iload_n (pc := 15) dX12_bad_15 rfl rfl ?_
            refine fr_iadd (z := w32 ((w32 (8 * (gI M 142 4))) + 1)) (pc := 16) dX12_bad_16 rfl ?_
            refine fr_goto (tg := 24) (pc := 17) dX12_bad_17 rfl ?_
            refine fr_put (a := 142) (i := 8) (pc := 24) dX12_bad_24 rfl pf_12_158 rfl s0_142 rfl rfl nf_142_8 rfl ?_
            refine fr_iconst (pc := 27) dX12_bad_27 (by decide) ?_
            refine fr_iret (pc := 28) dX12_bad_28 (Or.inr (Or.inl ⟨rfl, Or.inl rfl⟩)) ?_
            refine fr_istore_n (ls2 := [(2, 142), z1, (0, l2), (0, 0), z4]) (pc := 96) dX12_tests_96 rfl (Nat.le_of_ble_eq_true rfl) rfl ?_
            refine fr_iload_n (pc := 97) dX12_tests_97 rfl rfl ?_
            refine fr_ifcF (tg := 109) (pc := 98) dX12_tests_98 rfl rfl ?_
            refine fr_bipush (pc := 101) dX12_tests_101 (by decide) ?_
            refine fr_aload_n (pc := 103) dX12_tests_103 rfl rfl ?_
            refine fr_getf (a := 142) (i := 8) (v := w32 ((w32 (8 * (gI M 142 4))) + 1)) (t := 0) (pc := 104) dX12_tests_104 rfl pf_12_158 rfl s0_142 rfl (gI_eq _ _ _ _) ?_
            refine fr_isub (z := w32 ((-2) - (w32 ((w32 (8 * (gI M 142 4))) + 1)))) (pc := 107) dX12_tests_107 rfl ?_
            exact fr_iret (pc := 108) dX12_tests_108 (Or.inl rfl) hq
          · refine fr_aload_n (pc := 20) dX12_bad_20 rfl rfl ?_
            refine fr_getf (a := 142) (i := 8) (v := gI M 142 8) (t := 0) (pc := 21) dX12_bad_21 rfl pf_12_158 rfl s0_142 rfl rfl ?_
            refine fr_put (a := 142) (i := 8) (pc := 24) dX12_bad_24 rfl pf_12_158 rfl s0_142 rfl rfl nf_142_8 rfl ?_
            refine fr_iconst (pc := 27) dX12_bad_27 (by decide) ?_
            refine fr_iret (pc := 28) dX12_bad_28 (Or.inr (Or.inl ⟨rfl, Or.inl rfl⟩)) ?_
            refine fr_istore_n (ls2 := [(2, 142), z1, (0, l2), (0, 0), z4]) (pc := 96) dX12_tests_96 rfl (Nat.le_of_ble_eq_true rfl) rfl ?_
            refine fr_iload_n (pc := 97) dX12_tests_97 rfl rfl ?_
            refine fr_ifcF (tg := 109) (pc := 98) dX12_tests_98 rfl rfl ?_
            refine fr_bipush (pc := 101) dX12_tests_101 (by decide) ?_
            refine fr_aload_n (pc := 103) dX12_tests_103 rfl rfl ?_
            refine fr_getf (a := 142) (i := 8) (v := gI M 142 8) (t := 0) (pc := 104) dX12_tests_104 rfl pf_12_158 rfl s0_142 rfl (gI_eq _ _ _ _) ?_
            refine fr_isub (z := w32 ((-2) - (gI M 142 8))) (pc := 107) dX12_tests_107 rfl ?_
            exact fr_iret (pc := 108) dX12_tests_108 (Or.inl rfl) hq
    · refine fr_iconst (pc := 20) dX12_is_20 (by decide) ?_
      refine fr_iret (pc := 21) dX12_is_21 (Or.inr (Or.inl ⟨rfl, Or.inl rfl⟩)) ?_
      refine fr_ifcT (tg := 80) (pc := 61) dX12_tests_61 rfl rfl ?_
      refine fr_iload_n (pc := 80) dX12_tests_80 rfl rfl ?_
      refine fr_ifcF (tg := 97) (pc := 81) dX12_tests_81 (decide_eq_false hc1) rfl ?_
      refine fr_aload_n (pc := 84) dX12_tests_84 rfl rfl ?_
      refine fr_getf (a := 142) (i := 6) (v := gI M 142 6) (t := 0) (pc := 85) dX12_tests_85 rfl pf_12_144 rfl s0_142 rfl rfl ?_
      refine fr_ifc_eq (tg := 97) (pc := 88) dX12_tests_88 rfl hq (fun hc13 hq => ?_) (fun hc13 hq => ?_)
      · refine fr_iload_n (pc := 97) dX12_tests_97 rfl rfl ?_
        refine fr_ifcT (tg := 109) (pc := 98) dX12_tests_98 (decide_eq_true hc1) rfl ?_
        refine fr_aload_n (pc := 109) dX12_tests_109 rfl rfl ?_
        refine fr_iload_n (pc := 110) dX12_tests_110 rfl rfl ?_
        refine fr_iconst (pc := 111) dX12_tests_111 (by decide) ?_
        refine fr_iadd (z := w32 (l2 + 1)) (pc := 112) dX12_tests_112 rfl ?_
        refine fr_put (a := 142) (i := 24) (pc := 113) dX12_tests_113 rfl pf_12_246 rfl s0_142 rfl rfl nf_142_24 rfl ?_
        refine fr_iconst (pc := 116) dX12_tests_116 (by decide) ?_
        refine fr_istore (ls2 := [(2, 142), z1, (0, l2), (0, l3), (0, 0)]) (pc := 117) dX12_tests_117 rfl (Nat.le_of_ble_eq_true rfl) rfl ?_
        exact hq sc d hd z1 hz1 (0, l2) pm_t0 (0, l3) pm_t0
      · refine fr_aload_n (pc := 91) dX12_tests_91 rfl rfl ?_
        refine fr_iconst (pc := 92) dX12_tests_92 (by decide) ?_
        refine fr_inVI (a := 142) (as := [(0, 1)]) (rest := []) (ls' := [(2, 142), (0, 1)]) (c1 := 0) (c2 := c) (pc := 93) dX12_tests_93 pl_12_164 rfl ⟨Nat.le_of_ble_eq_true rfl, Nat.le_of_ble_eq_true rfl⟩ rfl rfl rfl s0_142 (Nat.le_of_ble_eq_true rfl) (by omega) rfl rfl (pm_zc _) ?_ (fun y M' h => h)
        refine fr_aload_n (pc := 0) dX12_bad_0 rfl rfl ?_
        refine fr_aload_n (pc := 1) dX12_bad_1 rfl rfl ?_
        refine fr_getf (a := 142) (i := 8) (v := gI M 142 8) (t := 0) (pc := 2) dX12_bad_2 rfl pf_12_158 rfl s0_142 rfl rfl ?_
        refine fr_ifc_ne (tg := 20) (pc := 5) dX12_bad_5 rfl hq (fun hc14 hq => ?_) (fun hc14 hq => ?_)
        · refine fr_bipush (pc := 8) dX12_bad_8 (by decide) ?_
          refine fr_aload_n (pc := 10) dX12_bad_10 rfl rfl ?_
          refine fr_getf (a := 142) (i := 4) (v := gI M 142 4) (t := 0) (pc := 11) dX12_bad_11 rfl pf_12_141 rfl s0_142 rfl rfl ?_
          refine fr_imul (z := w32 (8 * (gI M 142 4))) (pc := 14) dX12_bad_14 rfl ?_
          refine fr_iload_n (pc := 15) dX12_bad_15 rfl rfl ?_
          refine fr_iadd (z := w32 ((w32 (8 * (gI M 142 4))) + 1)) (pc := 16) dX12_bad_16 rfl ?_
          refine fr_goto (tg := 24) (pc := 17) dX12_bad_17 rfl ?_
          refine fr_put (a := 142) (i := 8) (pc := 24) dX12_bad_24 rfl pf_12_158 rfl s0_142 rfl rfl nf_142_8 rfl ?_
          refine fr_iconst (pc := 27) dX12_bad_27 (by decide) ?_
          refine fr_iret (pc := 28) dX12_bad_28 (Or.inr (Or.inl ⟨rfl, Or.inl rfl⟩)) ?_
          refine fr_istore_n (ls2 := [(2, 142), z1, (0, l2), (0, 0), z4]) (pc := 96) dX12_tests_96 rfl (Nat.le_of_ble_eq_true rfl) rfl ?_
          refine fr_iload_n (pc := 97) dX12_tests_97 rfl rfl ?_
          refine fr_ifcF (tg := 109) (pc := 98) dX12_tests_98 rfl rfl ?_
          refine fr_bipush (pc := 101) dX12_tests_101 (by decide) ?_
          refine fr_aload_n (pc := 103) dX12_tests_103 rfl rfl ?_
          refine fr_getf (a := 142) (i := 8) (v := w32 ((w32 (8 * (gI M 142 4))) + 1)) (t := 0) (pc := 104) dX12_tests_104 rfl pf_12_158 rfl s0_142 rfl (gI_eq _ _ _ _) ?_
          refine fr_isub (z := w32 ((-2) - (w32 ((w32 (8 * (gI M 142 4))) + 1)))) (pc := 107) dX12_tests_107 rfl ?_
          exact fr_iret (pc := 108) dX12_tests_108 (Or.inl rfl) hq
        · refine fr_aload_n (pc := 20) dX12_bad_20 rfl rfl ?_
          refine fr_getf (a := 142) (i := 8) (v := gI M 142 8) (t := 0) (pc := 21) dX12_bad_21 rfl pf_12_158 rfl s0_142 rfl rfl ?_
          refine fr_put (a := 142) (i := 8) (pc := 24) dX12_bad_24 rfl pf_12_158 rfl s0_142 rfl rfl nf_142_8 rfl ?_
          refine fr_iconst (pc := 27) dX12_bad_27 (by decide) ?_
          refine fr_iret (pc := 28) dX12_bad_28 (Or.inr (Or.inl ⟨rfl, Or.inl rfl⟩)) ?_
          refine fr_istore_n (ls2 := [(2, 142), z1, (0, l2), (0, 0), z4]) (pc := 96) dX12_tests_96 rfl (Nat.le_of_ble_eq_true rfl) rfl ?_
          refine fr_iload_n (pc := 97) dX12_tests_97 rfl rfl ?_
          refine fr_ifcF (tg := 109) (pc := 98) dX12_tests_98 rfl rfl ?_
          refine fr_bipush (pc := 101) dX12_tests_101 (by decide) ?_
          refine fr_aload_n (pc := 103) dX12_tests_103 rfl rfl ?_
          refine fr_getf (a := 142) (i := 8) (v := gI M 142 8) (t := 0) (pc := 104) dX12_tests_104 rfl pf_12_158 rfl s0_142 rfl (gI_eq _ _ _ _) ?_
          refine fr_isub (z := w32 ((-2) - (gI M 142 8))) (pc := 107) dX12_tests_107 rfl ?_
          exact fr_iret (pc := 108) dX12_tests_108 (Or.inl rfl) hq
theorem k12_tests_119_r {c : Nat} {l4 : Int} {M : pm_M} {K : Int → pm_M → Prop} (hq : (if l4 < w32 (5 * (gI M 142 24)) then ((0 ≤ l4 ∧ l4 < 80) ∧ k12_tests_119 c (w32 (l4 + 1)) (upI M 154 l4 (gI M 155 l4)) K) else K (gI M 142 24) M)) : k12_tests_119 c l4 M K := by
  intro sc d hd z1 hz1 z2 hz2 z3 hz3
  refine fr_iload (pc := 119) dX12_tests_119 rfl rfl ?_
  refine fr_iconst (pc := 121) dX12_tests_121 (by decide) ?_
  refine fr_aload_n (pc := 122) dX12_tests_122 rfl rfl ?_
  refine fr_getf (a := 142) (i := 24) (v := gI M 142 24) (t := 0) (pc := 123) dX12_tests_123 rfl pf_12_246 rfl s0_142 rfl rfl ?_
  refine fr_imul (z := w32 (5 * (gI M 142 24))) (pc := 126) dX12_tests_126 rfl ?_
  refine fr_icm_ge (tg := 150) (pc := 127) dX12_tests_127 rfl hq (fun hc1 hq => ?_) (fun hc1 hq => ?_)
  · refine fr_aload_n (pc := 130) dX12_tests_130 rfl rfl ?_
    refine fr_getr (a := 142) (pc := 131) dX12_tests_131 rfl pf_12_44 s0_142 rfl rf_142_25 ?_
    refine fr_iload (pc := 134) dX12_tests_134 rfl rfl ?_
    refine fr_aload_n (pc := 136) dX12_tests_136 rfl rfl ?_
    refine fr_getr (a := 142) (pc := 137) dX12_tests_137 rfl pf_12_47 s0_142 rfl rf_142_26 ?_
    refine fr_iload (pc := 140) dX12_tests_140 rfl rfl ?_
    obtain ⟨hb2, hq⟩ := hq
    refine fr_iaload (a := 155) (v := gI M 155 l4) (pc := 142) dX12_tests_142 rfl s0_155 hb2 rfl ?_
    refine fr_iastore (a := 154) (pc := 143) dX12_tests_143 rfl s0_154 hb2 nr_154 ?_
    refine fr_iinc (z := w32 (l4 + 1)) (ls2 := [(2, 142), z1, z2, z3, (0, w32 (l4 + 1))]) (pc := 144) dX12_tests_144 (Nat.le_of_ble_eq_true rfl) rfl rfl (pm_st1z hz3 rfl rfl) ?_
    refine fr_goto (tg := 119) (pc := 147) dX12_tests_147 rfl ?_
    exact hq sc d hd z1 hz1 z2 hz2 z3 hz3
  · refine fr_aload_n (pc := 150) dX12_tests_150 rfl rfl ?_
    refine fr_getf (a := 142) (i := 24) (v := gI M 142 24) (t := 0) (pc := 151) dX12_tests_151 rfl pf_12_246 rfl s0_142 rfl rfl ?_
    exact fr_iret (pc := 154) dX12_tests_154 (Or.inl rfl) hq
theorem k12_testLine_r {c : Nat} {a1 : Int} {M : pm_M} {K : Int → pm_M → Prop} (hq : (∃ c3 c4 : Nat, c3 + c4 ≤ c ∧ k12_isWord c3 116 101 115 116 0 0 M (fun r2 M1 => (if r2 = 0 then (if gI M1 142 8 = 0 then K 0 (upI M1 142 8 (w32 ((w32 (8 * (gI M1 142 4))) + 1))) else K 0 (upI M1 142 8 (gI M1 142 8))) else (if a1 = 16 then (if gI M1 142 8 = 0 then K 0 (upI M1 142 8 (w32 ((w32 (8 * (gI M1 142 4))) + 2))) else K 0 (upI M1 142 8 (gI M1 142 8))) else k12_go M1 (fun M10 => k12_value (w32 (5 * a1)) M10 (fun r13 M12 => (if r13 = 0 then K 0 M12 else k12_value (w32 ((w32 (5 * a1)) + 1)) M12 (fun r16 M15 => (if r16 = 0 then K 0 M15 else k12_value (w32 ((w32 (5 * a1)) + 2)) M15 (fun r19 M18 => (if r19 = 0 then K 0 M18 else (∃ c23 c24 : Nat, c23 + c24 ≤ c4 ∧ k12_isWord c23 103 105 118 101 115 0 M18 (fun r22 M21 => (if r22 = 0 then (if gI M21 142 8 = 0 then K 0 (upI M21 142 8 (w32 ((w32 (8 * (gI M21 142 4))) + 1))) else K 0 (upI M21 142 8 (gI M21 142 8))) else k12_go M21 (fun M28 => k12_value (w32 ((w32 (5 * a1)) + 3)) M28 (fun r31 M30 => (if r31 = 0 then (if w32 ((w32 (5 * a1)) + 4) < 80 then ((0 ≤ w32 ((w32 (5 * a1)) + 4) ∧ w32 ((w32 (5 * a1)) + 4) < 80) ∧ ((r31 = 0 ∨ r31 = 1) ∧ K r31 (upI M30 155 (w32 ((w32 (5 * a1)) + 4)) 0))) else ((r31 = 0 ∨ r31 = 1) ∧ K r31 (upI M30 155 0 0))) else (∃ c39 c40 : Nat, c39 + c40 ≤ c24 ∧ k12_isWord c39 104 101 108 100 0 0 M30 (fun r38 M37 => (if r38 = 0 then (if w32 ((w32 (5 * a1)) + 4) < 80 then ((0 ≤ w32 ((w32 (5 * a1)) + 4) ∧ w32 ((w32 (5 * a1)) + 4) < 80) ∧ ((r31 = 0 ∨ r31 = 1) ∧ K r31 (upI M37 155 (w32 ((w32 (5 * a1)) + 4)) 0))) else ((r31 = 0 ∨ r31 = 1) ∧ K r31 (upI M37 155 0 0))) else (if w32 ((w32 (5 * a1)) + 4) < 80 then ((0 ≤ w32 ((w32 (5 * a1)) + 4) ∧ w32 ((w32 (5 * a1)) + 4) < 80) ∧ k12_go (upI M37 155 (w32 ((w32 (5 * a1)) + 4)) 1) (fun M49 => ((r31 = 0 ∨ r31 = 1) ∧ K r31 M49))) else k12_go (upI M37 155 0 1) (fun M52 => ((r31 = 0 ∨ r31 = 1) ∧ K r31 M52)))))))))))))))))))))))) : k12_testLine c a1 M K := by
  intro sc d hd
  refine fr_aload_n (pc := 0) dX12_testLine_0 rfl rfl ?_
  refine fr_bipush (pc := 1) dX12_testLine_1 (by decide) ?_
  refine fr_bipush (pc := 3) dX12_testLine_3 (by decide) ?_
  refine fr_bipush (pc := 5) dX12_testLine_5 (by decide) ?_
  refine fr_bipush (pc := 7) dX12_testLine_7 (by decide) ?_
  refine fr_iconst (pc := 9) dX12_testLine_9 (by decide) ?_
  refine fr_iconst (pc := 10) dX12_testLine_10 (by decide) ?_
  obtain ⟨c3, c4, hcc5, hq⟩ := hq
  refine fr_inVI (a := 142) (as := [(0, 116), (0, 101), (0, 115), (0, 116), (0, 0), (0, 0)]) (rest := []) (ls' := [(2, 142), (0, 116), (0, 101), (0, 115), (0, 116), (0, 0), (0, 0), (9, 0), (9, 0), (9, 0)]) (c1 := c3) (c2 := c4) (pc := 11) dX12_testLine_11 pl_12_224 rfl ⟨Nat.le_of_ble_eq_true rfl, Nat.le_of_ble_eq_true rfl⟩ rfl rfl rfl s0_142 (Nat.le_of_ble_eq_true rfl) (by omega) rfl rfl hcc5 (hq sc _ (by omega)) (fun r2 M1 hq => ?_)
  refine fr_ifc_ne (tg := 23) (pc := 14) dX12_testLine_14 rfl hq (fun hc6 hq => ?_) (fun hc6 hq => ?_)
  · refine fr_aload_n (pc := 17) dX12_testLine_17 rfl rfl ?_
    refine fr_iconst (pc := 18) dX12_testLine_18 (by decide) ?_
    refine fr_inVI (a := 142) (as := [(0, 1)]) (rest := []) (ls' := [(2, 142), (0, 1)]) (c1 := 0) (c2 := c4) (pc := 19) dX12_testLine_19 pl_12_164 rfl ⟨Nat.le_of_ble_eq_true rfl, Nat.le_of_ble_eq_true rfl⟩ rfl rfl rfl s0_142 (Nat.le_of_ble_eq_true rfl) (by omega) rfl rfl (pm_zc _) ?_ (fun y M' h => h)
    refine fr_aload_n (pc := 0) dX12_bad_0 rfl rfl ?_
    refine fr_aload_n (pc := 1) dX12_bad_1 rfl rfl ?_
    refine fr_getf (a := 142) (i := 8) (v := gI M1 142 8) (t := 0) (pc := 2) dX12_bad_2 rfl pf_12_158 rfl s0_142 rfl rfl ?_
    refine fr_ifc_ne (tg := 20) (pc := 5) dX12_bad_5 rfl hq (fun hc7 hq => ?_) (fun hc7 hq => ?_)
    · refine fr_bipush (pc := 8) dX12_bad_8 (by decide) ?_
      refine fr_aload_n (pc := 10) dX12_bad_10 rfl rfl ?_
      refine fr_getf (a := 142) (i := 4) (v := gI M1 142 4) (t := 0) (pc := 11) dX12_bad_11 rfl pf_12_141 rfl s0_142 rfl rfl ?_
      refine fr_imul (z := w32 (8 * (gI M1 142 4))) (pc := 14) dX12_bad_14 rfl ?_
      refine fr_iload_n (pc := 15) dX12_bad_15 rfl rfl ?_
      refine fr_iadd (z := w32 ((w32 (8 * (gI M1 142 4))) + 1)) (pc := 16) dX12_bad_16 rfl ?_
      refine fr_goto (tg := 24) (pc := 17) dX12_bad_17 rfl ?_
      refine fr_put (a := 142) (i := 8) (pc := 24) dX12_bad_24 rfl pf_12_158 rfl s0_142 rfl rfl nf_142_8 rfl ?_
      refine fr_iconst (pc := 27) dX12_bad_27 (by decide) ?_
      refine fr_iret (pc := 28) dX12_bad_28 (Or.inr (Or.inl ⟨rfl, Or.inl rfl⟩)) ?_
      exact fr_iret (pc := 22) dX12_testLine_22 (Or.inr (Or.inl ⟨rfl, Or.inl rfl⟩)) hq
    · refine fr_aload_n (pc := 20) dX12_bad_20 rfl rfl ?_
      refine fr_getf (a := 142) (i := 8) (v := gI M1 142 8) (t := 0) (pc := 21) dX12_bad_21 rfl pf_12_158 rfl s0_142 rfl rfl ?_
      refine fr_put (a := 142) (i := 8) (pc := 24) dX12_bad_24 rfl pf_12_158 rfl s0_142 rfl rfl nf_142_8 rfl ?_
      refine fr_iconst (pc := 27) dX12_bad_27 (by decide) ?_
      refine fr_iret (pc := 28) dX12_bad_28 (Or.inr (Or.inl ⟨rfl, Or.inl rfl⟩)) ?_
      exact fr_iret (pc := 22) dX12_testLine_22 (Or.inr (Or.inl ⟨rfl, Or.inl rfl⟩)) hq
  · refine fr_iload_n (pc := 23) dX12_testLine_23 rfl rfl ?_
    refine fr_bipush (pc := 24) dX12_testLine_24 (by decide) ?_
    refine fr_icm_ne (tg := 35) (pc := 26) dX12_testLine_26 rfl hq (fun hc8 hq => ?_) (fun hc8 hq => ?_)
    · refine fr_aload_n (pc := 29) dX12_testLine_29 rfl rfl ?_
      refine fr_iconst (pc := 30) dX12_testLine_30 (by decide) ?_
      refine fr_inVI (a := 142) (as := [(0, 2)]) (rest := []) (ls' := [(2, 142), (0, 2)]) (c1 := 0) (c2 := c4) (pc := 31) dX12_testLine_31 pl_12_164 rfl ⟨Nat.le_of_ble_eq_true rfl, Nat.le_of_ble_eq_true rfl⟩ rfl rfl rfl s0_142 (Nat.le_of_ble_eq_true rfl) (by omega) rfl rfl (pm_zc _) ?_ (fun y M' h => h)
      refine fr_aload_n (pc := 0) dX12_bad_0 rfl rfl ?_
      refine fr_aload_n (pc := 1) dX12_bad_1 rfl rfl ?_
      refine fr_getf (a := 142) (i := 8) (v := gI M1 142 8) (t := 0) (pc := 2) dX12_bad_2 rfl pf_12_158 rfl s0_142 rfl rfl ?_
      refine fr_ifc_ne (tg := 20) (pc := 5) dX12_bad_5 rfl hq (fun hc9 hq => ?_) (fun hc9 hq => ?_)
      · refine fr_bipush (pc := 8) dX12_bad_8 (by decide) ?_
        refine fr_aload_n (pc := 10) dX12_bad_10 rfl rfl ?_
        refine fr_getf (a := 142) (i := 4) (v := gI M1 142 4) (t := 0) (pc := 11) dX12_bad_11 rfl pf_12_141 rfl s0_142 rfl rfl ?_
        refine fr_imul (z := w32 (8 * (gI M1 142 4))) (pc := 14) dX12_bad_14 rfl ?_
        refine fr_iload_n (pc := 15) dX12_bad_15 rfl rfl ?_
        refine fr_iadd (z := w32 ((w32 (8 * (gI M1 142 4))) + 2)) (pc := 16) dX12_bad_16 rfl ?_
        refine fr_goto (tg := 24) (pc := 17) dX12_bad_17 rfl ?_
        refine fr_put (a := 142) (i := 8) (pc := 24) dX12_bad_24 rfl pf_12_158 rfl s0_142 rfl rfl nf_142_8 rfl ?_
        refine fr_iconst (pc := 27) dX12_bad_27 (by decide) ?_
        refine fr_iret (pc := 28) dX12_bad_28 (Or.inr (Or.inl ⟨rfl, Or.inl rfl⟩)) ?_
        exact fr_iret (pc := 34) dX12_testLine_34 (Or.inr (Or.inl ⟨rfl, Or.inl rfl⟩)) hq
      · refine fr_aload_n (pc := 20) dX12_bad_20 rfl rfl ?_
        refine fr_getf (a := 142) (i := 8) (v := gI M1 142 8) (t := 0) (pc := 21) dX12_bad_21 rfl pf_12_158 rfl s0_142 rfl rfl ?_
        refine fr_put (a := 142) (i := 8) (pc := 24) dX12_bad_24 rfl pf_12_158 rfl s0_142 rfl rfl nf_142_8 rfl ?_
        refine fr_iconst (pc := 27) dX12_bad_27 (by decide) ?_
        refine fr_iret (pc := 28) dX12_bad_28 (Or.inr (Or.inl ⟨rfl, Or.inl rfl⟩)) ?_
        exact fr_iret (pc := 34) dX12_testLine_34 (Or.inr (Or.inl ⟨rfl, Or.inl rfl⟩)) hq
    · refine fr_aload_n (pc := 35) dX12_testLine_35 rfl rfl ?_
      refine fr_inVV (a := 142) (as := []) (rest := []) (ls' := [(2, 142), (9, 0)]) (c1 := 0) (c2 := c4) (pc := 36) dX12_testLine_36 pl_12_167 rfl ⟨Nat.le_of_ble_eq_true rfl, Nat.le_of_ble_eq_true rfl⟩ rfl rfl rfl s0_142 (Nat.le_of_ble_eq_true rfl) (by omega) rfl rfl (pm_zc _) (hq sc _ (by omega)) (fun M10 hq => ?_)
      refine fr_aload_n (pc := 39) dX12_testLine_39 rfl rfl ?_
      refine fr_iconst (pc := 40) dX12_testLine_40 (by decide) ?_
      refine fr_iload_n (pc := 41) dX12_testLine_41 rfl rfl ?_
      refine fr_imul (z := w32 (5 * a1)) (pc := 42) dX12_testLine_42 rfl ?_
      refine fr_inVI (a := 142) (as := [(0, w32 (5 * a1))]) (rest := []) (ls' := [(2, 142), (0, w32 (5 * a1)), (9, 0)]) (c1 := 0) (c2 := c4) (pc := 43) dX12_testLine_43 pl_12_241 rfl ⟨Nat.le_of_ble_eq_true rfl, Nat.le_of_ble_eq_true rfl⟩ rfl rfl rfl s0_142 (Nat.le_of_ble_eq_true rfl) (by omega) rfl rfl (pm_zc _) (hq sc _ (by omega)) (fun r13 M12 hq => ?_)
      refine fr_ifc_eq (tg := 73) (pc := 46) dX12_testLine_46 rfl hq (fun hc14 hq => ?_) (fun hc14 hq => ?_)
      · refine fr_iconst (pc := 73) dX12_testLine_73 (by decide) ?_
        exact fr_iret (pc := 74) dX12_testLine_74 (Or.inr (Or.inl ⟨rfl, Or.inl rfl⟩)) hq
      · refine fr_aload_n (pc := 49) dX12_testLine_49 rfl rfl ?_
        refine fr_iconst (pc := 50) dX12_testLine_50 (by decide) ?_
        refine fr_iload_n (pc := 51) dX12_testLine_51 rfl rfl ?_
        refine fr_imul (z := w32 (5 * a1)) (pc := 52) dX12_testLine_52 rfl ?_
        refine fr_iconst (pc := 53) dX12_testLine_53 (by decide) ?_
        refine fr_iadd (z := w32 ((w32 (5 * a1)) + 1)) (pc := 54) dX12_testLine_54 rfl ?_
        refine fr_inVI (a := 142) (as := [(0, w32 ((w32 (5 * a1)) + 1))]) (rest := []) (ls' := [(2, 142), (0, w32 ((w32 (5 * a1)) + 1)), (9, 0)]) (c1 := 0) (c2 := c4) (pc := 55) dX12_testLine_55 pl_12_241 rfl ⟨Nat.le_of_ble_eq_true rfl, Nat.le_of_ble_eq_true rfl⟩ rfl rfl rfl s0_142 (Nat.le_of_ble_eq_true rfl) (by omega) rfl rfl (pm_zc _) (hq sc _ (by omega)) (fun r16 M15 hq => ?_)
        refine fr_ifc_eq (tg := 73) (pc := 58) dX12_testLine_58 rfl hq (fun hc17 hq => ?_) (fun hc17 hq => ?_)
        · refine fr_iconst (pc := 73) dX12_testLine_73 (by decide) ?_
          exact fr_iret (pc := 74) dX12_testLine_74 (Or.inr (Or.inl ⟨rfl, Or.inl rfl⟩)) hq
        · refine fr_aload_n (pc := 61) dX12_testLine_61 rfl rfl ?_
          refine fr_iconst (pc := 62) dX12_testLine_62 (by decide) ?_
          refine fr_iload_n (pc := 63) dX12_testLine_63 rfl rfl ?_
          refine fr_imul (z := w32 (5 * a1)) (pc := 64) dX12_testLine_64 rfl ?_
          refine fr_iconst (pc := 65) dX12_testLine_65 (by decide) ?_
          refine fr_iadd (z := w32 ((w32 (5 * a1)) + 2)) (pc := 66) dX12_testLine_66 rfl ?_
          refine fr_inVI (a := 142) (as := [(0, w32 ((w32 (5 * a1)) + 2))]) (rest := []) (ls' := [(2, 142), (0, w32 ((w32 (5 * a1)) + 2)), (9, 0)]) (c1 := 0) (c2 := c4) (pc := 67) dX12_testLine_67 pl_12_241 rfl ⟨Nat.le_of_ble_eq_true rfl, Nat.le_of_ble_eq_true rfl⟩ rfl rfl rfl s0_142 (Nat.le_of_ble_eq_true rfl) (by omega) rfl rfl (pm_zc _) (hq sc _ (by omega)) (fun r19 M18 hq => ?_)
          refine fr_ifc_ne (tg := 75) (pc := 70) dX12_testLine_70 rfl hq (fun hc20 hq => ?_) (fun hc20 hq => ?_)
          · refine fr_iconst (pc := 73) dX12_testLine_73 (by decide) ?_
            exact fr_iret (pc := 74) dX12_testLine_74 (Or.inr (Or.inl ⟨rfl, Or.inl rfl⟩)) hq
          · refine fr_aload_n (pc := 75) dX12_testLine_75 rfl rfl ?_
            refine fr_bipush (pc := 76) dX12_testLine_76 (by decide) ?_
            refine fr_bipush (pc := 78) dX12_testLine_78 (by decide) ?_
            refine fr_bipush (pc := 80) dX12_testLine_80 (by decide) ?_
            refine fr_bipush (pc := 82) dX12_testLine_82 (by decide) ?_
            refine fr_bipush (pc := 84) dX12_testLine_84 (by decide) ?_
            refine fr_iconst (pc := 86) dX12_testLine_86 (by decide) ?_
            obtain ⟨c23, c24, hcc25, hq⟩ := hq
            refine fr_inVI (a := 142) (as := [(0, 103), (0, 105), (0, 118), (0, 101), (0, 115), (0, 0)]) (rest := []) (ls' := [(2, 142), (0, 103), (0, 105), (0, 118), (0, 101), (0, 115), (0, 0), (9, 0), (9, 0), (9, 0)]) (c1 := c23) (c2 := c24) (pc := 87) dX12_testLine_87 pl_12_224 rfl ⟨Nat.le_of_ble_eq_true rfl, Nat.le_of_ble_eq_true rfl⟩ rfl rfl rfl s0_142 (Nat.le_of_ble_eq_true rfl) (by omega) rfl rfl hcc25 (hq sc _ (by omega)) (fun r22 M21 hq => ?_)
            refine fr_ifc_ne (tg := 99) (pc := 90) dX12_testLine_90 rfl hq (fun hc26 hq => ?_) (fun hc26 hq => ?_)
            · refine fr_aload_n (pc := 93) dX12_testLine_93 rfl rfl ?_
              refine fr_iconst (pc := 94) dX12_testLine_94 (by decide) ?_
              refine fr_inVI (a := 142) (as := [(0, 1)]) (rest := []) (ls' := [(2, 142), (0, 1)]) (c1 := 0) (c2 := c24) (pc := 95) dX12_testLine_95 pl_12_164 rfl ⟨Nat.le_of_ble_eq_true rfl, Nat.le_of_ble_eq_true rfl⟩ rfl rfl rfl s0_142 (Nat.le_of_ble_eq_true rfl) (by omega) rfl rfl (pm_zc _) ?_ (fun y M' h => h)
              refine fr_aload_n (pc := 0) dX12_bad_0 rfl rfl ?_
              refine fr_aload_n (pc := 1) dX12_bad_1 rfl rfl ?_
              refine fr_getf (a := 142) (i := 8) (v := gI M21 142 8) (t := 0) (pc := 2) dX12_bad_2 rfl pf_12_158 rfl s0_142 rfl rfl ?_
              refine fr_ifc_ne (tg := 20) (pc := 5) dX12_bad_5 rfl hq (fun hc27 hq => ?_) (fun hc27 hq => ?_)
              · refine fr_bipush (pc := 8) dX12_bad_8 (by decide) ?_
                refine fr_aload_n (pc := 10) dX12_bad_10 rfl rfl ?_
                refine fr_getf (a := 142) (i := 4) (v := gI M21 142 4) (t := 0) (pc := 11) dX12_bad_11 rfl pf_12_141 rfl s0_142 rfl rfl ?_
                refine fr_imul (z := w32 (8 * (gI M21 142 4))) (pc := 14) dX12_bad_14 rfl ?_
                refine fr_iload_n (pc := 15) dX12_bad_15 rfl rfl ?_
                refine fr_iadd (z := w32 ((w32 (8 * (gI M21 142 4))) + 1)) (pc := 16) dX12_bad_16 rfl ?_
                refine fr_goto (tg := 24) (pc := 17) dX12_bad_17 rfl ?_
                refine fr_put (a := 142) (i := 8) (pc := 24) dX12_bad_24 rfl pf_12_158 rfl s0_142 rfl rfl nf_142_8 rfl ?_
                refine fr_iconst (pc := 27) dX12_bad_27 (by decide) ?_
                refine fr_iret (pc := 28) dX12_bad_28 (Or.inr (Or.inl ⟨rfl, Or.inl rfl⟩)) ?_
                exact fr_iret (pc := 98) dX12_testLine_98 (Or.inr (Or.inl ⟨rfl, Or.inl rfl⟩)) hq
              · refine fr_aload_n (pc := 20) dX12_bad_20 rfl rfl ?_
                refine fr_getf (a := 142) (i := 8) (v := gI M21 142 8) (t := 0) (pc := 21) dX12_bad_21 rfl pf_12_158 rfl s0_142 rfl rfl ?_
                refine fr_put (a := 142) (i := 8) (pc := 24) dX12_bad_24 rfl pf_12_158 rfl s0_142 rfl rfl nf_142_8 rfl ?_
                refine fr_iconst (pc := 27) dX12_bad_27 (by decide) ?_
                refine fr_iret (pc := 28) dX12_bad_28 (Or.inr (Or.inl ⟨rfl, Or.inl rfl⟩)) ?_
                exact fr_iret (pc := 98) dX12_testLine_98 (Or.inr (Or.inl ⟨rfl, Or.inl rfl⟩)) hq
            · refine fr_aload_n (pc := 99) dX12_testLine_99 rfl rfl ?_
              refine fr_inVV (a := 142) (as := []) (rest := []) (ls' := [(2, 142), (9, 0)]) (c1 := 0) (c2 := c24) (pc := 100) dX12_testLine_100 pl_12_167 rfl ⟨Nat.le_of_ble_eq_true rfl, Nat.le_of_ble_eq_true rfl⟩ rfl rfl rfl s0_142 (Nat.le_of_ble_eq_true rfl) (by omega) rfl rfl (pm_zc _) (hq sc _ (by omega)) (fun M28 hq => ?_)
              refine fr_aload_n (pc := 103) dX12_testLine_103 rfl rfl ?_
              refine fr_iconst (pc := 104) dX12_testLine_104 (by decide) ?_
              refine fr_iload_n (pc := 105) dX12_testLine_105 rfl rfl ?_
              refine fr_imul (z := w32 (5 * a1)) (pc := 106) dX12_testLine_106 rfl ?_
              refine fr_iconst (pc := 107) dX12_testLine_107 (by decide) ?_
              refine fr_iadd (z := w32 ((w32 (5 * a1)) + 3)) (pc := 108) dX12_testLine_108 rfl ?_
              refine fr_inVI (a := 142) (as := [(0, w32 ((w32 (5 * a1)) + 3))]) (rest := []) (ls' := [(2, 142), (0, w32 ((w32 (5 * a1)) + 3)), (9, 0)]) (c1 := 0) (c2 := c24) (pc := 109) dX12_testLine_109 pl_12_241 rfl ⟨Nat.le_of_ble_eq_true rfl, Nat.le_of_ble_eq_true rfl⟩ rfl rfl rfl s0_142 (Nat.le_of_ble_eq_true rfl) (by omega) rfl rfl (pm_zc _) (hq sc _ (by omega)) (fun r31 M30 hq => ?_)
              refine fr_istore_n (ls2 := [(2, 142), (0, a1), (0, r31), (9, 0)]) (pc := 112) dX12_testLine_112 rfl (Nat.le_of_ble_eq_true rfl) rfl ?_
              refine fr_iload_n (pc := 113) dX12_testLine_113 rfl rfl ?_
              refine fr_ifc_eq (tg := 138) (pc := 114) dX12_testLine_114 rfl hq (fun hc32 hq => ?_) (fun hc32 hq => ?_)
              · refine fr_iconst (pc := 138) dX12_testLine_138 (by decide) ?_
                refine fr_istore_n (ls2 := [(2, 142), (0, a1), (0, r31), (0, 0)]) (pc := 139) dX12_testLine_139 rfl (Nat.le_of_ble_eq_true rfl) rfl ?_
                refine fr_aload_n (pc := 140) dX12_testLine_140 rfl rfl ?_
                refine fr_getr (a := 142) (pc := 141) dX12_testLine_141 rfl pf_12_47 s0_142 rfl rf_142_26 ?_
                refine fr_iconst (pc := 144) dX12_testLine_144 (by decide) ?_
                refine fr_iload_n (pc := 145) dX12_testLine_145 rfl rfl ?_
                refine fr_imul (z := w32 (5 * a1)) (pc := 146) dX12_testLine_146 rfl ?_
                refine fr_iconst (pc := 147) dX12_testLine_147 (by decide) ?_
                refine fr_iadd (z := w32 ((w32 (5 * a1)) + 4)) (pc := 148) dX12_testLine_148 rfl ?_
                refine fr_bipush (pc := 149) dX12_testLine_149 (by decide) ?_
                refine fr_icm_ge (tg := 162) (pc := 151) dX12_testLine_151 rfl hq (fun hc33 hq => ?_) (fun hc33 hq => ?_)
                · refine fr_iconst (pc := 154) dX12_testLine_154 (by decide) ?_
                  refine fr_iload_n (pc := 155) dX12_testLine_155 rfl rfl ?_
                  refine fr_imul (z := w32 (5 * a1)) (pc := 156) dX12_testLine_156 rfl ?_
                  refine fr_iconst (pc := 157) dX12_testLine_157 (by decide) ?_
                  refine fr_iadd (z := w32 ((w32 (5 * a1)) + 4)) (pc := 158) dX12_testLine_158 rfl ?_
                  refine fr_goto (tg := 163) (pc := 159) dX12_testLine_159 rfl ?_
                  refine fr_iload_n (pc := 163) dX12_testLine_163 rfl rfl ?_
                  refine fr_ifcT (tg := 171) (pc := 164) dX12_testLine_164 rfl rfl ?_
                  refine fr_iconst (pc := 171) dX12_testLine_171 (by decide) ?_
                  obtain ⟨hb34, hq⟩ := hq
                  refine fr_iastore (a := 155) (pc := 172) dX12_testLine_172 rfl s0_155 hb34 nr_155 ?_
                  refine fr_iload_n (pc := 173) dX12_testLine_173 rfl rfl ?_
                  refine fr_ifcT (tg := 181) (pc := 174) dX12_testLine_174 rfl rfl ?_
                  refine fr_iload_n (pc := 181) dX12_testLine_181 rfl rfl ?_
                  obtain ⟨hz35, hq⟩ := hq
                  exact fr_iret (pc := 182) dX12_testLine_182 (Or.inr (Or.inl ⟨rfl, hz35⟩)) hq
                · refine fr_iconst (pc := 162) dX12_testLine_162 (by decide) ?_
                  refine fr_iload_n (pc := 163) dX12_testLine_163 rfl rfl ?_
                  refine fr_ifcT (tg := 171) (pc := 164) dX12_testLine_164 rfl rfl ?_
                  refine fr_iconst (pc := 171) dX12_testLine_171 (by decide) ?_
                  refine fr_iastore (a := 155) (pc := 172) dX12_testLine_172 rfl s0_155 (by decide) nr_155 ?_
                  refine fr_iload_n (pc := 173) dX12_testLine_173 rfl rfl ?_
                  refine fr_ifcT (tg := 181) (pc := 174) dX12_testLine_174 rfl rfl ?_
                  refine fr_iload_n (pc := 181) dX12_testLine_181 rfl rfl ?_
                  obtain ⟨hz36, hq⟩ := hq
                  exact fr_iret (pc := 182) dX12_testLine_182 (Or.inr (Or.inl ⟨rfl, hz36⟩)) hq
              · refine fr_aload_n (pc := 117) dX12_testLine_117 rfl rfl ?_
                refine fr_bipush (pc := 118) dX12_testLine_118 (by decide) ?_
                refine fr_bipush (pc := 120) dX12_testLine_120 (by decide) ?_
                refine fr_bipush (pc := 122) dX12_testLine_122 (by decide) ?_
                refine fr_bipush (pc := 124) dX12_testLine_124 (by decide) ?_
                refine fr_iconst (pc := 126) dX12_testLine_126 (by decide) ?_
                refine fr_iconst (pc := 127) dX12_testLine_127 (by decide) ?_
                obtain ⟨c39, c40, hcc41, hq⟩ := hq
                refine fr_inVI (a := 142) (as := [(0, 104), (0, 101), (0, 108), (0, 100), (0, 0), (0, 0)]) (rest := []) (ls' := [(2, 142), (0, 104), (0, 101), (0, 108), (0, 100), (0, 0), (0, 0), (9, 0), (9, 0), (9, 0)]) (c1 := c39) (c2 := c40) (pc := 128) dX12_testLine_128 pl_12_224 rfl ⟨Nat.le_of_ble_eq_true rfl, Nat.le_of_ble_eq_true rfl⟩ rfl rfl rfl s0_142 (Nat.le_of_ble_eq_true rfl) (by omega) rfl rfl hcc41 (hq sc _ (by omega)) (fun r38 M37 hq => ?_)
                refine fr_ifc_eq (tg := 138) (pc := 131) dX12_testLine_131 rfl hq (fun hc42 hq => ?_) (fun hc42 hq => ?_)
                · refine fr_iconst (pc := 138) dX12_testLine_138 (by decide) ?_
                  refine fr_istore_n (ls2 := [(2, 142), (0, a1), (0, r31), (0, 0)]) (pc := 139) dX12_testLine_139 rfl (Nat.le_of_ble_eq_true rfl) rfl ?_
                  refine fr_aload_n (pc := 140) dX12_testLine_140 rfl rfl ?_
                  refine fr_getr (a := 142) (pc := 141) dX12_testLine_141 rfl pf_12_47 s0_142 rfl rf_142_26 ?_
                  refine fr_iconst (pc := 144) dX12_testLine_144 (by decide) ?_
                  refine fr_iload_n (pc := 145) dX12_testLine_145 rfl rfl ?_
                  refine fr_imul (z := w32 (5 * a1)) (pc := 146) dX12_testLine_146 rfl ?_
                  refine fr_iconst (pc := 147) dX12_testLine_147 (by decide) ?_
                  refine fr_iadd (z := w32 ((w32 (5 * a1)) + 4)) (pc := 148) dX12_testLine_148 rfl ?_
                  refine fr_bipush (pc := 149) dX12_testLine_149 (by decide) ?_
                  refine fr_icm_ge (tg := 162) (pc := 151) dX12_testLine_151 rfl hq (fun hc43 hq => ?_) (fun hc43 hq => ?_)
                  · refine fr_iconst (pc := 154) dX12_testLine_154 (by decide) ?_
                    refine fr_iload_n (pc := 155) dX12_testLine_155 rfl rfl ?_
                    refine fr_imul (z := w32 (5 * a1)) (pc := 156) dX12_testLine_156 rfl ?_
                    refine fr_iconst (pc := 157) dX12_testLine_157 (by decide) ?_
                    refine fr_iadd (z := w32 ((w32 (5 * a1)) + 4)) (pc := 158) dX12_testLine_158 rfl ?_
                    refine fr_goto (tg := 163) (pc := 159) dX12_testLine_159 rfl ?_
                    refine fr_iload_n (pc := 163) dX12_testLine_163 rfl rfl ?_
                    refine fr_ifcT (tg := 171) (pc := 164) dX12_testLine_164 rfl rfl ?_
                    refine fr_iconst (pc := 171) dX12_testLine_171 (by decide) ?_
                    obtain ⟨hb44, hq⟩ := hq
                    refine fr_iastore (a := 155) (pc := 172) dX12_testLine_172 rfl s0_155 hb44 nr_155 ?_
                    refine fr_iload_n (pc := 173) dX12_testLine_173 rfl rfl ?_
                    refine fr_ifcT (tg := 181) (pc := 174) dX12_testLine_174 rfl rfl ?_
                    refine fr_iload_n (pc := 181) dX12_testLine_181 rfl rfl ?_
                    obtain ⟨hz45, hq⟩ := hq
                    exact fr_iret (pc := 182) dX12_testLine_182 (Or.inr (Or.inl ⟨rfl, hz45⟩)) hq
                  · refine fr_iconst (pc := 162) dX12_testLine_162 (by decide) ?_
                    refine fr_iload_n (pc := 163) dX12_testLine_163 rfl rfl ?_
                    refine fr_ifcT (tg := 171) (pc := 164) dX12_testLine_164 rfl rfl ?_
                    refine fr_iconst (pc := 171) dX12_testLine_171 (by decide) ?_
                    refine fr_iastore (a := 155) (pc := 172) dX12_testLine_172 rfl s0_155 (by decide) nr_155 ?_
                    refine fr_iload_n (pc := 173) dX12_testLine_173 rfl rfl ?_
                    refine fr_ifcT (tg := 181) (pc := 174) dX12_testLine_174 rfl rfl ?_
                    refine fr_iload_n (pc := 181) dX12_testLine_181 rfl rfl ?_
                    obtain ⟨hz46, hq⟩ := hq
                    exact fr_iret (pc := 182) dX12_testLine_182 (Or.inr (Or.inl ⟨rfl, hz46⟩)) hq
                · refine fr_iconst (pc := 134) dX12_testLine_134 (by decide) ?_
                  refine fr_goto (tg := 139) (pc := 135) dX12_testLine_135 rfl ?_
                  refine fr_istore_n (ls2 := [(2, 142), (0, a1), (0, r31), (0, 1)]) (pc := 139) dX12_testLine_139 rfl (Nat.le_of_ble_eq_true rfl) rfl ?_
                  refine fr_aload_n (pc := 140) dX12_testLine_140 rfl rfl ?_
                  refine fr_getr (a := 142) (pc := 141) dX12_testLine_141 rfl pf_12_47 s0_142 rfl rf_142_26 ?_
                  refine fr_iconst (pc := 144) dX12_testLine_144 (by decide) ?_
                  refine fr_iload_n (pc := 145) dX12_testLine_145 rfl rfl ?_
                  refine fr_imul (z := w32 (5 * a1)) (pc := 146) dX12_testLine_146 rfl ?_
                  refine fr_iconst (pc := 147) dX12_testLine_147 (by decide) ?_
                  refine fr_iadd (z := w32 ((w32 (5 * a1)) + 4)) (pc := 148) dX12_testLine_148 rfl ?_
                  refine fr_bipush (pc := 149) dX12_testLine_149 (by decide) ?_
                  refine fr_icm_ge (tg := 162) (pc := 151) dX12_testLine_151 rfl hq (fun hc47 hq => ?_) (fun hc47 hq => ?_)
                  · refine fr_iconst (pc := 154) dX12_testLine_154 (by decide) ?_
                    refine fr_iload_n (pc := 155) dX12_testLine_155 rfl rfl ?_
                    refine fr_imul (z := w32 (5 * a1)) (pc := 156) dX12_testLine_156 rfl ?_
                    refine fr_iconst (pc := 157) dX12_testLine_157 (by decide) ?_
                    refine fr_iadd (z := w32 ((w32 (5 * a1)) + 4)) (pc := 158) dX12_testLine_158 rfl ?_
                    refine fr_goto (tg := 163) (pc := 159) dX12_testLine_159 rfl ?_
                    refine fr_iload_n (pc := 163) dX12_testLine_163 rfl rfl ?_
                    refine fr_ifcF (tg := 171) (pc := 164) dX12_testLine_164 rfl rfl ?_
                    refine fr_iconst (pc := 167) dX12_testLine_167 (by decide) ?_
                    refine fr_goto (tg := 172) (pc := 168) dX12_testLine_168 rfl ?_
                    obtain ⟨hb48, hq⟩ := hq
                    refine fr_iastore (a := 155) (pc := 172) dX12_testLine_172 rfl s0_155 hb48 nr_155 ?_
                    refine fr_iload_n (pc := 173) dX12_testLine_173 rfl rfl ?_
                    refine fr_ifcF (tg := 181) (pc := 174) dX12_testLine_174 rfl rfl ?_
                    refine fr_aload_n (pc := 177) dX12_testLine_177 rfl rfl ?_
                    refine fr_inVV (a := 142) (as := []) (rest := []) (ls' := [(2, 142), (9, 0)]) (c1 := 0) (c2 := c40) (pc := 178) dX12_testLine_178 pl_12_167 rfl ⟨Nat.le_of_ble_eq_true rfl, Nat.le_of_ble_eq_true rfl⟩ rfl rfl rfl s0_142 (Nat.le_of_ble_eq_true rfl) (by omega) rfl rfl (pm_zc _) (hq sc _ (by omega)) (fun M49 hq => ?_)
                    refine fr_iload_n (pc := 181) dX12_testLine_181 rfl rfl ?_
                    obtain ⟨hz51, hq⟩ := hq
                    exact fr_iret (pc := 182) dX12_testLine_182 (Or.inr (Or.inl ⟨rfl, hz51⟩)) hq
                  · refine fr_iconst (pc := 162) dX12_testLine_162 (by decide) ?_
                    refine fr_iload_n (pc := 163) dX12_testLine_163 rfl rfl ?_
                    refine fr_ifcF (tg := 171) (pc := 164) dX12_testLine_164 rfl rfl ?_
                    refine fr_iconst (pc := 167) dX12_testLine_167 (by decide) ?_
                    refine fr_goto (tg := 172) (pc := 168) dX12_testLine_168 rfl ?_
                    refine fr_iastore (a := 155) (pc := 172) dX12_testLine_172 rfl s0_155 (by decide) nr_155 ?_
                    refine fr_iload_n (pc := 173) dX12_testLine_173 rfl rfl ?_
                    refine fr_ifcF (tg := 181) (pc := 174) dX12_testLine_174 rfl rfl ?_
                    refine fr_aload_n (pc := 177) dX12_testLine_177 rfl rfl ?_
                    refine fr_inVV (a := 142) (as := []) (rest := []) (ls' := [(2, 142), (9, 0)]) (c1 := 0) (c2 := c40) (pc := 178) dX12_testLine_178 pl_12_167 rfl ⟨Nat.le_of_ble_eq_true rfl, Nat.le_of_ble_eq_true rfl⟩ rfl rfl rfl s0_142 (Nat.le_of_ble_eq_true rfl) (by omega) rfl rfl (pm_zc _) (hq sc _ (by omega)) (fun M52 hq => ?_)
                    refine fr_iload_n (pc := 181) dX12_testLine_181 rfl rfl ?_
                    obtain ⟨hz54, hq⟩ := hq
                    exact fr_iret (pc := 182) dX12_testLine_182 (Or.inr (Or.inl ⟨rfl, hz54⟩)) hq
theorem k12_value_r {a1 : Int} {M : pm_M} {K : Int → pm_M → Prop} (hq : (if gI M 142 6 = 3 then (if gI M 142 7 = 45 then k12_go M (fun M3 => (if gI M3 142 6 = 2 then ((0 ≤ a1 ∧ a1 < 80) ∧ k12_go (upI M3 155 a1 (w32 (-(gI M3 142 7)))) (fun M7 => K 1 M7)) else (if gI M3 142 8 = 0 then K 0 (upI M3 142 8 (w32 ((w32 (8 * (gI M3 142 4))) + 1))) else K 0 (upI M3 142 8 (gI M3 142 8))))) else (if gI M 142 6 = 2 then ((0 ≤ a1 ∧ a1 < 80) ∧ k12_go (upI M 155 a1 (gI M 142 7)) (fun M12 => K 1 M12)) else (if gI M 142 8 = 0 then K 0 (upI M 142 8 (w32 ((w32 (8 * (gI M 142 4))) + 1))) else K 0 (upI M 142 8 (gI M 142 8))))) else (if gI M 142 6 = 2 then ((0 ≤ a1 ∧ a1 < 80) ∧ k12_go (upI M 155 a1 (gI M 142 7)) (fun M17 => K 1 M17)) else (if gI M 142 8 = 0 then K 0 (upI M 142 8 (w32 ((w32 (8 * (gI M 142 4))) + 1))) else K 0 (upI M 142 8 (gI M 142 8)))))) : k12_value a1 M K := by
  intro sc d hd
  refine fr_aload_n (pc := 0) dX12_value_0 rfl rfl ?_
  refine fr_bipush (pc := 1) dX12_value_1 (by decide) ?_
  refine fr_inVI (a := 142) (as := [(0, 45)]) (rest := []) (ls' := [(2, 142), (0, 45)]) (c1 := 0) (c2 := 0) (pc := 3) dX12_value_3 pl_12_161 rfl ⟨Nat.le_of_ble_eq_true rfl, Nat.le_of_ble_eq_true rfl⟩ rfl rfl rfl s0_142 (Nat.le_of_ble_eq_true rfl) (by omega) rfl rfl (pm_zc _) ?_ (fun y M' h => h)
  refine fr_aload_n (pc := 0) dX12_is_0 rfl rfl ?_
  refine fr_getf (a := 142) (i := 6) (v := gI M 142 6) (t := 0) (pc := 1) dX12_is_1 rfl pf_12_144 rfl s0_142 rfl rfl ?_
  refine fr_iconst (pc := 4) dX12_is_4 (by decide) ?_
  refine fr_icm_ne (tg := 20) (pc := 5) dX12_is_5 rfl hq (fun hc1 hq => ?_) (fun hc1 hq => ?_)
  · refine fr_aload_n (pc := 8) dX12_is_8 rfl rfl ?_
    refine fr_getf (a := 142) (i := 7) (v := gI M 142 7) (t := 0) (pc := 9) dX12_is_9 rfl pf_12_151 rfl s0_142 rfl rfl ?_
    refine fr_iload_n (pc := 12) dX12_is_12 rfl rfl ?_
    refine fr_icm_ne (tg := 20) (pc := 13) dX12_is_13 rfl hq (fun hc2 hq => ?_) (fun hc2 hq => ?_)
    · refine fr_iconst (pc := 16) dX12_is_16 (by decide) ?_
      refine fr_goto (tg := 21) (pc := 17) dX12_is_17 rfl ?_
      refine fr_iret (pc := 21) dX12_is_21 (Or.inr (Or.inl ⟨rfl, Or.inr rfl⟩)) ?_
      refine fr_istore_n (ls2 := [(2, 142), (0, a1), (0, 1)]) (pc := 6) dX12_value_6 rfl (Nat.le_of_ble_eq_true rfl) rfl ?_
      refine fr_iload_n (pc := 7) dX12_value_7 rfl rfl ?_
      refine fr_ifcF (tg := 15) (pc := 8) dX12_value_8 rfl rfl ?_
      refine fr_aload_n (pc := 11) dX12_value_11 rfl rfl ?_
      refine fr_inVV (a := 142) (as := []) (rest := []) (ls' := [(2, 142), (9, 0)]) (c1 := 0) (c2 := 0) (pc := 12) dX12_value_12 pl_12_167 rfl ⟨Nat.le_of_ble_eq_true rfl, Nat.le_of_ble_eq_true rfl⟩ rfl rfl rfl s0_142 (Nat.le_of_ble_eq_true rfl) (by omega) rfl rfl (pm_zc _) (hq sc _ (by omega)) (fun M3 hq => ?_)
      refine fr_aload_n (pc := 15) dX12_value_15 rfl rfl ?_
      refine fr_getf (a := 142) (i := 6) (v := gI M3 142 6) (t := 0) (pc := 16) dX12_value_16 rfl pf_12_144 rfl s0_142 rfl rfl ?_
      refine fr_iconst (pc := 19) dX12_value_19 (by decide) ?_
      refine fr_icm_eq (tg := 29) (pc := 20) dX12_value_20 rfl hq (fun hc5 hq => ?_) (fun hc5 hq => ?_)
      · refine fr_aload_n (pc := 29) dX12_value_29 rfl rfl ?_
        refine fr_getr (a := 142) (pc := 30) dX12_value_30 rfl pf_12_47 s0_142 rfl rf_142_26 ?_
        refine fr_iload_n (pc := 33) dX12_value_33 rfl rfl ?_
        refine fr_iload_n (pc := 34) dX12_value_34 rfl rfl ?_
        refine fr_ifcF (tg := 46) (pc := 35) dX12_value_35 rfl rfl ?_
        refine fr_aload_n (pc := 38) dX12_value_38 rfl rfl ?_
        refine fr_getf (a := 142) (i := 7) (v := gI M3 142 7) (t := 0) (pc := 39) dX12_value_39 rfl pf_12_151 rfl s0_142 rfl rfl ?_
        refine fr_ineg (z := w32 (-(gI M3 142 7))) (pc := 42) dX12_value_42 rfl ?_
        refine fr_goto (tg := 50) (pc := 43) dX12_value_43 rfl ?_
        obtain ⟨hb6, hq⟩ := hq
        refine fr_iastore (a := 155) (pc := 50) dX12_value_50 rfl s0_155 hb6 nr_155 ?_
        refine fr_aload_n (pc := 51) dX12_value_51 rfl rfl ?_
        refine fr_inVV (a := 142) (as := []) (rest := []) (ls' := [(2, 142), (9, 0)]) (c1 := 0) (c2 := 0) (pc := 52) dX12_value_52 pl_12_167 rfl ⟨Nat.le_of_ble_eq_true rfl, Nat.le_of_ble_eq_true rfl⟩ rfl rfl rfl s0_142 (Nat.le_of_ble_eq_true rfl) (by omega) rfl rfl (pm_zc _) (hq sc _ (by omega)) (fun M7 hq => ?_)
        refine fr_iconst (pc := 55) dX12_value_55 (by decide) ?_
        exact fr_iret (pc := 56) dX12_value_56 (Or.inr (Or.inl ⟨rfl, Or.inr rfl⟩)) hq
      · refine fr_aload_n (pc := 23) dX12_value_23 rfl rfl ?_
        refine fr_iconst (pc := 24) dX12_value_24 (by decide) ?_
        refine fr_inVI (a := 142) (as := [(0, 1)]) (rest := []) (ls' := [(2, 142), (0, 1)]) (c1 := 0) (c2 := 0) (pc := 25) dX12_value_25 pl_12_164 rfl ⟨Nat.le_of_ble_eq_true rfl, Nat.le_of_ble_eq_true rfl⟩ rfl rfl rfl s0_142 (Nat.le_of_ble_eq_true rfl) (by omega) rfl rfl (pm_zc _) ?_ (fun y M' h => h)
        refine fr_aload_n (pc := 0) dX12_bad_0 rfl rfl ?_
        refine fr_aload_n (pc := 1) dX12_bad_1 rfl rfl ?_
        refine fr_getf (a := 142) (i := 8) (v := gI M3 142 8) (t := 0) (pc := 2) dX12_bad_2 rfl pf_12_158 rfl s0_142 rfl rfl ?_
        refine fr_ifc_ne (tg := 20) (pc := 5) dX12_bad_5 rfl hq (fun hc9 hq => ?_) (fun hc9 hq => ?_)
        · refine fr_bipush (pc := 8) dX12_bad_8 (by decide) ?_
          refine fr_aload_n (pc := 10) dX12_bad_10 rfl rfl ?_
          refine fr_getf (a := 142) (i := 4) (v := gI M3 142 4) (t := 0) (pc := 11) dX12_bad_11 rfl pf_12_141 rfl s0_142 rfl rfl ?_
          refine fr_imul (z := w32 (8 * (gI M3 142 4))) (pc := 14) dX12_bad_14 rfl ?_
          refine fr_iload_n (pc := 15) dX12_bad_15 rfl rfl ?_
          refine fr_iadd (z := w32 ((w32 (8 * (gI M3 142 4))) + 1)) (pc := 16) dX12_bad_16 rfl ?_
          refine fr_goto (tg := 24) (pc := 17) dX12_bad_17 rfl ?_
          refine fr_put (a := 142) (i := 8) (pc := 24) dX12_bad_24 rfl pf_12_158 rfl s0_142 rfl rfl nf_142_8 rfl ?_
          refine fr_iconst (pc := 27) dX12_bad_27 (by decide) ?_
          refine fr_iret (pc := 28) dX12_bad_28 (Or.inr (Or.inl ⟨rfl, Or.inl rfl⟩)) ?_
          exact fr_iret (pc := 28) dX12_value_28 (Or.inr (Or.inl ⟨rfl, Or.inl rfl⟩)) hq
        · refine fr_aload_n (pc := 20) dX12_bad_20 rfl rfl ?_
          refine fr_getf (a := 142) (i := 8) (v := gI M3 142 8) (t := 0) (pc := 21) dX12_bad_21 rfl pf_12_158 rfl s0_142 rfl rfl ?_
          refine fr_put (a := 142) (i := 8) (pc := 24) dX12_bad_24 rfl pf_12_158 rfl s0_142 rfl rfl nf_142_8 rfl ?_
          refine fr_iconst (pc := 27) dX12_bad_27 (by decide) ?_
          refine fr_iret (pc := 28) dX12_bad_28 (Or.inr (Or.inl ⟨rfl, Or.inl rfl⟩)) ?_
          exact fr_iret (pc := 28) dX12_value_28 (Or.inr (Or.inl ⟨rfl, Or.inl rfl⟩)) hq
    · refine fr_iconst (pc := 20) dX12_is_20 (by decide) ?_
      refine fr_iret (pc := 21) dX12_is_21 (Or.inr (Or.inl ⟨rfl, Or.inl rfl⟩)) ?_
      refine fr_istore_n (ls2 := [(2, 142), (0, a1), (0, 0)]) (pc := 6) dX12_value_6 rfl (Nat.le_of_ble_eq_true rfl) rfl ?_
      refine fr_iload_n (pc := 7) dX12_value_7 rfl rfl ?_
      refine fr_ifcT (tg := 15) (pc := 8) dX12_value_8 rfl rfl ?_
      refine fr_aload_n (pc := 15) dX12_value_15 rfl rfl ?_
      refine fr_getf (a := 142) (i := 6) (v := gI M 142 6) (t := 0) (pc := 16) dX12_value_16 rfl pf_12_144 rfl s0_142 rfl rfl ?_
      refine fr_iconst (pc := 19) dX12_value_19 (by decide) ?_
      refine fr_icm_eq (tg := 29) (pc := 20) dX12_value_20 rfl hq (fun hc10 hq => ?_) (fun hc10 hq => ?_)
      · refine fr_aload_n (pc := 29) dX12_value_29 rfl rfl ?_
        refine fr_getr (a := 142) (pc := 30) dX12_value_30 rfl pf_12_47 s0_142 rfl rf_142_26 ?_
        refine fr_iload_n (pc := 33) dX12_value_33 rfl rfl ?_
        refine fr_iload_n (pc := 34) dX12_value_34 rfl rfl ?_
        refine fr_ifcT (tg := 46) (pc := 35) dX12_value_35 rfl rfl ?_
        refine fr_aload_n (pc := 46) dX12_value_46 rfl rfl ?_
        refine fr_getf (a := 142) (i := 7) (v := gI M 142 7) (t := 0) (pc := 47) dX12_value_47 rfl pf_12_151 rfl s0_142 rfl rfl ?_
        obtain ⟨hb11, hq⟩ := hq
        refine fr_iastore (a := 155) (pc := 50) dX12_value_50 rfl s0_155 hb11 nr_155 ?_
        refine fr_aload_n (pc := 51) dX12_value_51 rfl rfl ?_
        refine fr_inVV (a := 142) (as := []) (rest := []) (ls' := [(2, 142), (9, 0)]) (c1 := 0) (c2 := 0) (pc := 52) dX12_value_52 pl_12_167 rfl ⟨Nat.le_of_ble_eq_true rfl, Nat.le_of_ble_eq_true rfl⟩ rfl rfl rfl s0_142 (Nat.le_of_ble_eq_true rfl) (by omega) rfl rfl (pm_zc _) (hq sc _ (by omega)) (fun M12 hq => ?_)
        refine fr_iconst (pc := 55) dX12_value_55 (by decide) ?_
        exact fr_iret (pc := 56) dX12_value_56 (Or.inr (Or.inl ⟨rfl, Or.inr rfl⟩)) hq
      · refine fr_aload_n (pc := 23) dX12_value_23 rfl rfl ?_
        refine fr_iconst (pc := 24) dX12_value_24 (by decide) ?_
        refine fr_inVI (a := 142) (as := [(0, 1)]) (rest := []) (ls' := [(2, 142), (0, 1)]) (c1 := 0) (c2 := 0) (pc := 25) dX12_value_25 pl_12_164 rfl ⟨Nat.le_of_ble_eq_true rfl, Nat.le_of_ble_eq_true rfl⟩ rfl rfl rfl s0_142 (Nat.le_of_ble_eq_true rfl) (by omega) rfl rfl (pm_zc _) ?_ (fun y M' h => h)
        refine fr_aload_n (pc := 0) dX12_bad_0 rfl rfl ?_
        refine fr_aload_n (pc := 1) dX12_bad_1 rfl rfl ?_
        refine fr_getf (a := 142) (i := 8) (v := gI M 142 8) (t := 0) (pc := 2) dX12_bad_2 rfl pf_12_158 rfl s0_142 rfl rfl ?_
        refine fr_ifc_ne (tg := 20) (pc := 5) dX12_bad_5 rfl hq (fun hc14 hq => ?_) (fun hc14 hq => ?_)
        · refine fr_bipush (pc := 8) dX12_bad_8 (by decide) ?_
          refine fr_aload_n (pc := 10) dX12_bad_10 rfl rfl ?_
          refine fr_getf (a := 142) (i := 4) (v := gI M 142 4) (t := 0) (pc := 11) dX12_bad_11 rfl pf_12_141 rfl s0_142 rfl rfl ?_
          refine fr_imul (z := w32 (8 * (gI M 142 4))) (pc := 14) dX12_bad_14 rfl ?_
          refine fr_iload_n (pc := 15) dX12_bad_15 rfl rfl ?_
          refine fr_iadd (z := w32 ((w32 (8 * (gI M 142 4))) + 1)) (pc := 16) dX12_bad_16 rfl ?_
          refine fr_goto (tg := 24) (pc := 17) dX12_bad_17 rfl ?_
          refine fr_put (a := 142) (i := 8) (pc := 24) dX12_bad_24 rfl pf_12_158 rfl s0_142 rfl rfl nf_142_8 rfl ?_
          refine fr_iconst (pc := 27) dX12_bad_27 (by decide) ?_
          refine fr_iret (pc := 28) dX12_bad_28 (Or.inr (Or.inl ⟨rfl, Or.inl rfl⟩)) ?_
          exact fr_iret (pc := 28) dX12_value_28 (Or.inr (Or.inl ⟨rfl, Or.inl rfl⟩)) hq
        · refine fr_aload_n (pc := 20) dX12_bad_20 rfl rfl ?_
          refine fr_getf (a := 142) (i := 8) (v := gI M 142 8) (t := 0) (pc := 21) dX12_bad_21 rfl pf_12_158 rfl s0_142 rfl rfl ?_
          refine fr_put (a := 142) (i := 8) (pc := 24) dX12_bad_24 rfl pf_12_158 rfl s0_142 rfl rfl nf_142_8 rfl ?_
          refine fr_iconst (pc := 27) dX12_bad_27 (by decide) ?_
          refine fr_iret (pc := 28) dX12_bad_28 (Or.inr (Or.inl ⟨rfl, Or.inl rfl⟩)) ?_
          exact fr_iret (pc := 28) dX12_value_28 (Or.inr (Or.inl ⟨rfl, Or.inl rfl⟩)) hq
  · refine fr_iconst (pc := 20) dX12_is_20 (by decide) ?_
    refine fr_iret (pc := 21) dX12_is_21 (Or.inr (Or.inl ⟨rfl, Or.inl rfl⟩)) ?_
    refine fr_istore_n (ls2 := [(2, 142), (0, a1), (0, 0)]) (pc := 6) dX12_value_6 rfl (Nat.le_of_ble_eq_true rfl) rfl ?_
    refine fr_iload_n (pc := 7) dX12_value_7 rfl rfl ?_
    refine fr_ifcT (tg := 15) (pc := 8) dX12_value_8 rfl rfl ?_
    refine fr_aload_n (pc := 15) dX12_value_15 rfl rfl ?_
    refine fr_getf (a := 142) (i := 6) (v := gI M 142 6) (t := 0) (pc := 16) dX12_value_16 rfl pf_12_144 rfl s0_142 rfl rfl ?_
    refine fr_iconst (pc := 19) dX12_value_19 (by decide) ?_
    refine fr_icm_eq (tg := 29) (pc := 20) dX12_value_20 rfl hq (fun hc15 hq => ?_) (fun hc15 hq => ?_)
    · refine fr_aload_n (pc := 29) dX12_value_29 rfl rfl ?_
      refine fr_getr (a := 142) (pc := 30) dX12_value_30 rfl pf_12_47 s0_142 rfl rf_142_26 ?_
      refine fr_iload_n (pc := 33) dX12_value_33 rfl rfl ?_
      refine fr_iload_n (pc := 34) dX12_value_34 rfl rfl ?_
      refine fr_ifcT (tg := 46) (pc := 35) dX12_value_35 rfl rfl ?_
      refine fr_aload_n (pc := 46) dX12_value_46 rfl rfl ?_
      refine fr_getf (a := 142) (i := 7) (v := gI M 142 7) (t := 0) (pc := 47) dX12_value_47 rfl pf_12_151 rfl s0_142 rfl rfl ?_
      obtain ⟨hb16, hq⟩ := hq
      refine fr_iastore (a := 155) (pc := 50) dX12_value_50 rfl s0_155 hb16 nr_155 ?_
      refine fr_aload_n (pc := 51) dX12_value_51 rfl rfl ?_
      refine fr_inVV (a := 142) (as := []) (rest := []) (ls' := [(2, 142), (9, 0)]) (c1 := 0) (c2 := 0) (pc := 52) dX12_value_52 pl_12_167 rfl ⟨Nat.le_of_ble_eq_true rfl, Nat.le_of_ble_eq_true rfl⟩ rfl rfl rfl s0_142 (Nat.le_of_ble_eq_true rfl) (by omega) rfl rfl (pm_zc _) (hq sc _ (by omega)) (fun M17 hq => ?_)
      refine fr_iconst (pc := 55) dX12_value_55 (by decide) ?_
      exact fr_iret (pc := 56) dX12_value_56 (Or.inr (Or.inl ⟨rfl, Or.inr rfl⟩)) hq
    · refine fr_aload_n (pc := 23) dX12_value_23 rfl rfl ?_
      refine fr_iconst (pc := 24) dX12_value_24 (by decide) ?_
      refine fr_inVI (a := 142) (as := [(0, 1)]) (rest := []) (ls' := [(2, 142), (0, 1)]) (c1 := 0) (c2 := 0) (pc := 25) dX12_value_25 pl_12_164 rfl ⟨Nat.le_of_ble_eq_true rfl, Nat.le_of_ble_eq_true rfl⟩ rfl rfl rfl s0_142 (Nat.le_of_ble_eq_true rfl) (by omega) rfl rfl (pm_zc _) ?_ (fun y M' h => h)
      refine fr_aload_n (pc := 0) dX12_bad_0 rfl rfl ?_
      refine fr_aload_n (pc := 1) dX12_bad_1 rfl rfl ?_
      refine fr_getf (a := 142) (i := 8) (v := gI M 142 8) (t := 0) (pc := 2) dX12_bad_2 rfl pf_12_158 rfl s0_142 rfl rfl ?_
      refine fr_ifc_ne (tg := 20) (pc := 5) dX12_bad_5 rfl hq (fun hc19 hq => ?_) (fun hc19 hq => ?_)
      · refine fr_bipush (pc := 8) dX12_bad_8 (by decide) ?_
        refine fr_aload_n (pc := 10) dX12_bad_10 rfl rfl ?_
        refine fr_getf (a := 142) (i := 4) (v := gI M 142 4) (t := 0) (pc := 11) dX12_bad_11 rfl pf_12_141 rfl s0_142 rfl rfl ?_
        refine fr_imul (z := w32 (8 * (gI M 142 4))) (pc := 14) dX12_bad_14 rfl ?_
        refine fr_iload_n (pc := 15) dX12_bad_15 rfl rfl ?_
        refine fr_iadd (z := w32 ((w32 (8 * (gI M 142 4))) + 1)) (pc := 16) dX12_bad_16 rfl ?_
        refine fr_goto (tg := 24) (pc := 17) dX12_bad_17 rfl ?_
        refine fr_put (a := 142) (i := 8) (pc := 24) dX12_bad_24 rfl pf_12_158 rfl s0_142 rfl rfl nf_142_8 rfl ?_
        refine fr_iconst (pc := 27) dX12_bad_27 (by decide) ?_
        refine fr_iret (pc := 28) dX12_bad_28 (Or.inr (Or.inl ⟨rfl, Or.inl rfl⟩)) ?_
        exact fr_iret (pc := 28) dX12_value_28 (Or.inr (Or.inl ⟨rfl, Or.inl rfl⟩)) hq
      · refine fr_aload_n (pc := 20) dX12_bad_20 rfl rfl ?_
        refine fr_getf (a := 142) (i := 8) (v := gI M 142 8) (t := 0) (pc := 21) dX12_bad_21 rfl pf_12_158 rfl s0_142 rfl rfl ?_
        refine fr_put (a := 142) (i := 8) (pc := 24) dX12_bad_24 rfl pf_12_158 rfl s0_142 rfl rfl nf_142_8 rfl ?_
        refine fr_iconst (pc := 27) dX12_bad_27 (by decide) ?_
        refine fr_iret (pc := 28) dX12_bad_28 (Or.inr (Or.inl ⟨rfl, Or.inl rfl⟩)) ?_
        exact fr_iret (pc := 28) dX12_value_28 (Or.inr (Or.inl ⟨rfl, Or.inl rfl⟩)) hq
theorem k12_test_r {a1 a2 : Int} {M : pm_M} {K : Int → pm_M → Prop} (hq : (if a1 < 0 then K 0 (upI M 142 0 1) else (if a1 ≤ w32 ((gI M 142 24) - 1) then (if a2 < 0 then K 0 (upI M 142 0 1) else (if a2 ≤ 4 then ((0 ≤ w32 ((w32 (5 * a1)) + a2) ∧ w32 ((w32 (5 * a1)) + a2) < 80) ∧ K (gI M 154 (w32 ((w32 (5 * a1)) + a2))) (upI M 142 0 0)) else K 0 (upI M 142 0 1))) else K 0 (upI M 142 0 1)))) : k12_test a1 a2 M K := by
  intro sc d hd
  refine fr_aload_n (pc := 0) dX12_test_0 rfl rfl ?_
  refine fr_aload_n (pc := 1) dX12_test_1 rfl rfl ?_
  refine fr_iload_n (pc := 2) dX12_test_2 rfl rfl ?_
  refine fr_inVI (a := 142) (as := [(0, a1)]) (rest := [(2, 142)]) (ls' := [(2, 142), (0, a1)]) (c1 := 0) (c2 := 0) (pc := 3) dX12_test_3 pl_12_249 rfl ⟨Nat.le_of_ble_eq_true rfl, Nat.le_of_ble_eq_true rfl⟩ rfl rfl rfl s0_142 (Nat.le_of_ble_eq_true rfl) (by omega) rfl rfl (pm_zc _) ?_ (fun y M' h => h)
  refine fr_iload_n (pc := 0) dX12_isTest_0 rfl rfl ?_
  refine fr_iconst (pc := 1) dX12_isTest_1 (by decide) ?_
  refine fr_aload_n (pc := 2) dX12_isTest_2 rfl rfl ?_
  refine fr_getf (a := 142) (i := 24) (v := gI M 142 24) (t := 0) (pc := 3) dX12_isTest_3 rfl pf_12_246 rfl s0_142 rfl rfl ?_
  refine fr_iconst (pc := 6) dX12_isTest_6 (by decide) ?_
  refine fr_isub (z := w32 ((gI M 142 24) - 1)) (pc := 7) dX12_isTest_7 rfl ?_
  refine fr_inSI (as := [(0, a1), (0, 0), (0, w32 ((gI M 142 24) - 1))]) (rest := []) (ls' := [(0, a1), (0, 0), (0, w32 ((gI M 142 24) - 1))]) (c1 := 0) (c2 := 0) (pc := 8) dX12_isTest_8 pl_12_147 rfl ⟨Nat.le_of_ble_eq_true rfl, Nat.le_of_ble_eq_true rfl⟩ rfl rfl  (by omega) rfl rfl (pm_zc _) ?_ (fun y M' h => h)
  refine fr_iload_n (pc := 0) dX12_within_0 rfl rfl ?_
  refine fr_iload_n (pc := 1) dX12_within_1 rfl rfl ?_
  refine fr_icm_lt (tg := 14) (pc := 2) dX12_within_2 rfl hq (fun hc1 hq => ?_) (fun hc1 hq => ?_)
  · refine fr_iconst (pc := 14) dX12_within_14 (by decide) ?_
    refine fr_iret (pc := 15) dX12_within_15 (Or.inr (Or.inl ⟨rfl, Or.inl rfl⟩)) ?_
    refine fr_iret (pc := 11) dX12_isTest_11 (Or.inr (Or.inl ⟨rfl, Or.inl rfl⟩)) ?_
    refine fr_ifcT (tg := 22) (pc := 6) dX12_test_6 rfl rfl ?_
    refine fr_iconst (pc := 22) dX12_test_22 (by decide) ?_
    refine fr_put (a := 142) (i := 0) (pc := 23) dX12_test_23 rfl pf_12_121 rfl s0_142 rfl rfl nf_142_0 rfl ?_
    refine fr_aload_n (pc := 26) dX12_test_26 rfl rfl ?_
    refine fr_getf (a := 142) (i := 0) (v := 1) (t := 0) (pc := 27) dX12_test_27 rfl pf_12_121 rfl s0_142 rfl (gI_eq _ _ _ _) ?_
    refine fr_ifcF (tg := 37) (pc := 30) dX12_test_30 rfl rfl ?_
    refine fr_iconst (pc := 33) dX12_test_33 (by decide) ?_
    refine fr_goto (tg := 47) (pc := 34) dX12_test_34 rfl ?_
    exact fr_iret (pc := 47) dX12_test_47 (Or.inl rfl) hq
  · refine fr_iload_n (pc := 5) dX12_within_5 rfl rfl ?_
    refine fr_iload_n (pc := 6) dX12_within_6 rfl rfl ?_
    refine fr_icm_gt (tg := 14) (pc := 7) dX12_within_7 rfl hq (fun hc2 hq => ?_) (fun hc2 hq => ?_)
    · refine fr_iconst (pc := 10) dX12_within_10 (by decide) ?_
      refine fr_goto (tg := 15) (pc := 11) dX12_within_11 rfl ?_
      refine fr_iret (pc := 15) dX12_within_15 (Or.inr (Or.inl ⟨rfl, Or.inr rfl⟩)) ?_
      refine fr_iret (pc := 11) dX12_isTest_11 (Or.inr (Or.inl ⟨rfl, Or.inr rfl⟩)) ?_
      refine fr_ifcF (tg := 22) (pc := 6) dX12_test_6 rfl rfl ?_
      refine fr_iload_n (pc := 9) dX12_test_9 rfl rfl ?_
      refine fr_iconst (pc := 10) dX12_test_10 (by decide) ?_
      refine fr_iconst (pc := 11) dX12_test_11 (by decide) ?_
      refine fr_inSI (as := [(0, a2), (0, 0), (0, 4)]) (rest := [(2, 142)]) (ls' := [(0, a2), (0, 0), (0, 4)]) (c1 := 0) (c2 := 0) (pc := 12) dX12_test_12 pl_12_147 rfl ⟨Nat.le_of_ble_eq_true rfl, Nat.le_of_ble_eq_true rfl⟩ rfl rfl  (by omega) rfl rfl (pm_zc _) ?_ (fun y M' h => h)
      refine fr_iload_n (pc := 0) dX12_within_0 rfl rfl ?_
      refine fr_iload_n (pc := 1) dX12_within_1 rfl rfl ?_
      refine fr_icm_lt (tg := 14) (pc := 2) dX12_within_2 rfl hq (fun hc3 hq => ?_) (fun hc3 hq => ?_)
      · refine fr_iconst (pc := 14) dX12_within_14 (by decide) ?_
        refine fr_iret (pc := 15) dX12_within_15 (Or.inr (Or.inl ⟨rfl, Or.inl rfl⟩)) ?_
        refine fr_ifcT (tg := 22) (pc := 15) dX12_test_15 rfl rfl ?_
        refine fr_iconst (pc := 22) dX12_test_22 (by decide) ?_
        refine fr_put (a := 142) (i := 0) (pc := 23) dX12_test_23 rfl pf_12_121 rfl s0_142 rfl rfl nf_142_0 rfl ?_
        refine fr_aload_n (pc := 26) dX12_test_26 rfl rfl ?_
        refine fr_getf (a := 142) (i := 0) (v := 1) (t := 0) (pc := 27) dX12_test_27 rfl pf_12_121 rfl s0_142 rfl (gI_eq _ _ _ _) ?_
        refine fr_ifcF (tg := 37) (pc := 30) dX12_test_30 rfl rfl ?_
        refine fr_iconst (pc := 33) dX12_test_33 (by decide) ?_
        refine fr_goto (tg := 47) (pc := 34) dX12_test_34 rfl ?_
        exact fr_iret (pc := 47) dX12_test_47 (Or.inl rfl) hq
      · refine fr_iload_n (pc := 5) dX12_within_5 rfl rfl ?_
        refine fr_iload_n (pc := 6) dX12_within_6 rfl rfl ?_
        refine fr_icm_gt (tg := 14) (pc := 7) dX12_within_7 rfl hq (fun hc4 hq => ?_) (fun hc4 hq => ?_)
        · refine fr_iconst (pc := 10) dX12_within_10 (by decide) ?_
          refine fr_goto (tg := 15) (pc := 11) dX12_within_11 rfl ?_
          refine fr_iret (pc := 15) dX12_within_15 (Or.inr (Or.inl ⟨rfl, Or.inr rfl⟩)) ?_
          refine fr_ifcF (tg := 22) (pc := 15) dX12_test_15 rfl rfl ?_
          refine fr_iconst (pc := 18) dX12_test_18 (by decide) ?_
          refine fr_goto (tg := 23) (pc := 19) dX12_test_19 rfl ?_
          refine fr_put (a := 142) (i := 0) (pc := 23) dX12_test_23 rfl pf_12_121 rfl s0_142 rfl rfl nf_142_0 rfl ?_
          refine fr_aload_n (pc := 26) dX12_test_26 rfl rfl ?_
          refine fr_getf (a := 142) (i := 0) (v := 0) (t := 0) (pc := 27) dX12_test_27 rfl pf_12_121 rfl s0_142 rfl (gI_eq _ _ _ _) ?_
          refine fr_ifcT (tg := 37) (pc := 30) dX12_test_30 rfl rfl ?_
          refine fr_aload_n (pc := 37) dX12_test_37 rfl rfl ?_
          refine fr_getr (a := 142) (pc := 38) dX12_test_38 rfl pf_12_44 s0_142 rfl rf_142_25 ?_
          refine fr_iconst (pc := 41) dX12_test_41 (by decide) ?_
          refine fr_iload_n (pc := 42) dX12_test_42 rfl rfl ?_
          refine fr_imul (z := w32 (5 * a1)) (pc := 43) dX12_test_43 rfl ?_
          refine fr_iload_n (pc := 44) dX12_test_44 rfl rfl ?_
          refine fr_iadd (z := w32 ((w32 (5 * a1)) + a2)) (pc := 45) dX12_test_45 rfl ?_
          obtain ⟨hb5, hq⟩ := hq
          refine fr_iaload (a := 154) (v := gI M 154 (w32 ((w32 (5 * a1)) + a2))) (pc := 46) dX12_test_46 rfl s0_154 hb5 (gI_ne _ _ _ _ (by decide)) ?_
          exact fr_iret (pc := 47) dX12_test_47 (Or.inl rfl) hq
        · refine fr_iconst (pc := 14) dX12_within_14 (by decide) ?_
          refine fr_iret (pc := 15) dX12_within_15 (Or.inr (Or.inl ⟨rfl, Or.inl rfl⟩)) ?_
          refine fr_ifcT (tg := 22) (pc := 15) dX12_test_15 rfl rfl ?_
          refine fr_iconst (pc := 22) dX12_test_22 (by decide) ?_
          refine fr_put (a := 142) (i := 0) (pc := 23) dX12_test_23 rfl pf_12_121 rfl s0_142 rfl rfl nf_142_0 rfl ?_
          refine fr_aload_n (pc := 26) dX12_test_26 rfl rfl ?_
          refine fr_getf (a := 142) (i := 0) (v := 1) (t := 0) (pc := 27) dX12_test_27 rfl pf_12_121 rfl s0_142 rfl (gI_eq _ _ _ _) ?_
          refine fr_ifcF (tg := 37) (pc := 30) dX12_test_30 rfl rfl ?_
          refine fr_iconst (pc := 33) dX12_test_33 (by decide) ?_
          refine fr_goto (tg := 47) (pc := 34) dX12_test_34 rfl ?_
          exact fr_iret (pc := 47) dX12_test_47 (Or.inl rfl) hq
    · refine fr_iconst (pc := 14) dX12_within_14 (by decide) ?_
      refine fr_iret (pc := 15) dX12_within_15 (Or.inr (Or.inl ⟨rfl, Or.inl rfl⟩)) ?_
      refine fr_iret (pc := 11) dX12_isTest_11 (Or.inr (Or.inl ⟨rfl, Or.inl rfl⟩)) ?_
      refine fr_ifcT (tg := 22) (pc := 6) dX12_test_6 rfl rfl ?_
      refine fr_iconst (pc := 22) dX12_test_22 (by decide) ?_
      refine fr_put (a := 142) (i := 0) (pc := 23) dX12_test_23 rfl pf_12_121 rfl s0_142 rfl rfl nf_142_0 rfl ?_
      refine fr_aload_n (pc := 26) dX12_test_26 rfl rfl ?_
      refine fr_getf (a := 142) (i := 0) (v := 1) (t := 0) (pc := 27) dX12_test_27 rfl pf_12_121 rfl s0_142 rfl (gI_eq _ _ _ _) ?_
      refine fr_ifcF (tg := 37) (pc := 30) dX12_test_30 rfl rfl ?_
      refine fr_iconst (pc := 33) dX12_test_33 (by decide) ?_
      refine fr_goto (tg := 47) (pc := 34) dX12_test_34 rfl ?_
      exact fr_iret (pc := 47) dX12_test_47 (Or.inl rfl) hq
theorem k12_run_r {a1 a2 : Int} {M : pm_M} {K : Int → pm_M → Prop} (hq : (if gI M 144 0 ≤ 0 then K (-1) (upI M 142 0 0) else (if a1 < 0 then K (-1) (upI M 142 0 0) else (if a1 ≤ w32 ((gI M 142 24) - 1) then (if a2 < 0 then K (-1) (upI M 142 0 0) else (if a2 ≤ 3 then k12_passes a1 (upI M 142 0 0) (fun r7 M6 => (if a2 = 0 then K (gI M6 142 29) M6 else (if a2 = 1 then K (gI M6 142 30) M6 else (if a2 = 2 then K (gI M6 142 28) M6 else (if r7 = 0 then K 0 M6 else K 1 M6))))) else K (-1) (upI M 142 0 0))) else K (-1) (upI M 142 0 0))))) : k12_run a1 a2 M K := by
  intro sc d hd
  refine fr_aload_n (pc := 0) dX12_run_0 rfl rfl ?_
  refine fr_iconst (pc := 1) dX12_run_1 (by decide) ?_
  refine fr_put (a := 142) (i := 0) (pc := 2) dX12_run_2 rfl pf_12_121 rfl s0_142 rfl rfl nf_142_0 rfl ?_
  refine fr_aload_n (pc := 5) dX12_run_5 rfl rfl ?_
  refine fr_inVI (a := 142) (as := []) (rest := []) (ls' := [(2, 142)]) (c1 := 0) (c2 := 0) (pc := 6) dX12_run_6 pl_12_299 rfl ⟨Nat.le_of_ble_eq_true rfl, Nat.le_of_ble_eq_true rfl⟩ rfl rfl rfl s0_142 (Nat.le_of_ble_eq_true rfl) (by omega) rfl rfl (pm_zc _) ?_ (fun y M' h => h)
  refine fr_aload_n (pc := 0) dX12_isProgram_0 rfl rfl ?_
  refine fr_getr (a := 142) (pc := 1) dX12_isProgram_1 rfl pf_12_13 s0_142 rfl rf_142_9 ?_
  refine fr_iconst (pc := 4) dX12_isProgram_4 (by decide) ?_
  refine fr_iaload (a := 144) (v := gI M 144 0) (pc := 5) dX12_isProgram_5 rfl s0_144 (by decide) (gI_ne _ _ _ _ (by decide)) ?_
  refine fr_ifc_le (tg := 13) (pc := 6) dX12_isProgram_6 rfl hq (fun hc1 hq => ?_) (fun hc1 hq => ?_)
  · refine fr_iconst (pc := 13) dX12_isProgram_13 (by decide) ?_
    refine fr_iret (pc := 14) dX12_isProgram_14 (Or.inr (Or.inl ⟨rfl, Or.inl rfl⟩)) ?_
    refine fr_ifcT (tg := 29) (pc := 9) dX12_run_9 rfl rfl ?_
    refine fr_iconst (pc := 29) dX12_run_29 (by decide) ?_
    exact fr_iret (pc := 30) dX12_run_30 (Or.inl rfl) hq
  · refine fr_iconst (pc := 9) dX12_isProgram_9 (by decide) ?_
    refine fr_goto (tg := 14) (pc := 10) dX12_isProgram_10 rfl ?_
    refine fr_iret (pc := 14) dX12_isProgram_14 (Or.inr (Or.inl ⟨rfl, Or.inr rfl⟩)) ?_
    refine fr_ifcF (tg := 29) (pc := 9) dX12_run_9 rfl rfl ?_
    refine fr_aload_n (pc := 12) dX12_run_12 rfl rfl ?_
    refine fr_iload_n (pc := 13) dX12_run_13 rfl rfl ?_
    refine fr_inVI (a := 142) (as := [(0, a1)]) (rest := []) (ls' := [(2, 142), (0, a1)]) (c1 := 0) (c2 := 0) (pc := 14) dX12_run_14 pl_12_249 rfl ⟨Nat.le_of_ble_eq_true rfl, Nat.le_of_ble_eq_true rfl⟩ rfl rfl rfl s0_142 (Nat.le_of_ble_eq_true rfl) (by omega) rfl rfl (pm_zc _) ?_ (fun y M' h => h)
    refine fr_iload_n (pc := 0) dX12_isTest_0 rfl rfl ?_
    refine fr_iconst (pc := 1) dX12_isTest_1 (by decide) ?_
    refine fr_aload_n (pc := 2) dX12_isTest_2 rfl rfl ?_
    refine fr_getf (a := 142) (i := 24) (v := gI M 142 24) (t := 0) (pc := 3) dX12_isTest_3 rfl pf_12_246 rfl s0_142 rfl (gI_nf _ _ (by decide)) ?_
    refine fr_iconst (pc := 6) dX12_isTest_6 (by decide) ?_
    refine fr_isub (z := w32 ((gI M 142 24) - 1)) (pc := 7) dX12_isTest_7 rfl ?_
    refine fr_inSI (as := [(0, a1), (0, 0), (0, w32 ((gI M 142 24) - 1))]) (rest := []) (ls' := [(0, a1), (0, 0), (0, w32 ((gI M 142 24) - 1))]) (c1 := 0) (c2 := 0) (pc := 8) dX12_isTest_8 pl_12_147 rfl ⟨Nat.le_of_ble_eq_true rfl, Nat.le_of_ble_eq_true rfl⟩ rfl rfl  (by omega) rfl rfl (pm_zc _) ?_ (fun y M' h => h)
    refine fr_iload_n (pc := 0) dX12_within_0 rfl rfl ?_
    refine fr_iload_n (pc := 1) dX12_within_1 rfl rfl ?_
    refine fr_icm_lt (tg := 14) (pc := 2) dX12_within_2 rfl hq (fun hc2 hq => ?_) (fun hc2 hq => ?_)
    · refine fr_iconst (pc := 14) dX12_within_14 (by decide) ?_
      refine fr_iret (pc := 15) dX12_within_15 (Or.inr (Or.inl ⟨rfl, Or.inl rfl⟩)) ?_
      refine fr_iret (pc := 11) dX12_isTest_11 (Or.inr (Or.inl ⟨rfl, Or.inl rfl⟩)) ?_
      refine fr_ifcT (tg := 29) (pc := 17) dX12_run_17 rfl rfl ?_
      refine fr_iconst (pc := 29) dX12_run_29 (by decide) ?_
      exact fr_iret (pc := 30) dX12_run_30 (Or.inl rfl) hq
    · refine fr_iload_n (pc := 5) dX12_within_5 rfl rfl ?_
      refine fr_iload_n (pc := 6) dX12_within_6 rfl rfl ?_
      refine fr_icm_gt (tg := 14) (pc := 7) dX12_within_7 rfl hq (fun hc3 hq => ?_) (fun hc3 hq => ?_)
      · refine fr_iconst (pc := 10) dX12_within_10 (by decide) ?_
        refine fr_goto (tg := 15) (pc := 11) dX12_within_11 rfl ?_
        refine fr_iret (pc := 15) dX12_within_15 (Or.inr (Or.inl ⟨rfl, Or.inr rfl⟩)) ?_
        refine fr_iret (pc := 11) dX12_isTest_11 (Or.inr (Or.inl ⟨rfl, Or.inr rfl⟩)) ?_
        refine fr_ifcF (tg := 29) (pc := 17) dX12_run_17 rfl rfl ?_
        refine fr_iload_n (pc := 20) dX12_run_20 rfl rfl ?_
        refine fr_iconst (pc := 21) dX12_run_21 (by decide) ?_
        refine fr_iconst (pc := 22) dX12_run_22 (by decide) ?_
        refine fr_inSI (as := [(0, a2), (0, 0), (0, 3)]) (rest := []) (ls' := [(0, a2), (0, 0), (0, 3)]) (c1 := 0) (c2 := 0) (pc := 23) dX12_run_23 pl_12_147 rfl ⟨Nat.le_of_ble_eq_true rfl, Nat.le_of_ble_eq_true rfl⟩ rfl rfl  (by omega) rfl rfl (pm_zc _) ?_ (fun y M' h => h)
        refine fr_iload_n (pc := 0) dX12_within_0 rfl rfl ?_
        refine fr_iload_n (pc := 1) dX12_within_1 rfl rfl ?_
        refine fr_icm_lt (tg := 14) (pc := 2) dX12_within_2 rfl hq (fun hc4 hq => ?_) (fun hc4 hq => ?_)
        · refine fr_iconst (pc := 14) dX12_within_14 (by decide) ?_
          refine fr_iret (pc := 15) dX12_within_15 (Or.inr (Or.inl ⟨rfl, Or.inl rfl⟩)) ?_
          refine fr_ifcF (tg := 31) (pc := 26) dX12_run_26 rfl rfl ?_
          refine fr_iconst (pc := 29) dX12_run_29 (by decide) ?_
          exact fr_iret (pc := 30) dX12_run_30 (Or.inl rfl) hq
        · refine fr_iload_n (pc := 5) dX12_within_5 rfl rfl ?_
          refine fr_iload_n (pc := 6) dX12_within_6 rfl rfl ?_
          refine fr_icm_gt (tg := 14) (pc := 7) dX12_within_7 rfl hq (fun hc5 hq => ?_) (fun hc5 hq => ?_)
          · refine fr_iconst (pc := 10) dX12_within_10 (by decide) ?_
            refine fr_goto (tg := 15) (pc := 11) dX12_within_11 rfl ?_
            refine fr_iret (pc := 15) dX12_within_15 (Or.inr (Or.inl ⟨rfl, Or.inr rfl⟩)) ?_
            refine fr_ifcT (tg := 31) (pc := 26) dX12_run_26 rfl rfl ?_
            refine fr_aload_n (pc := 31) dX12_run_31 rfl rfl ?_
            refine fr_iload_n (pc := 32) dX12_run_32 rfl rfl ?_
            refine fr_inVI (a := 142) (as := [(0, a1)]) (rest := []) (ls' := [(2, 142), (0, a1)]) (c1 := 0) (c2 := 0) (pc := 33) dX12_run_33 pl_12_302 rfl ⟨Nat.le_of_ble_eq_true rfl, Nat.le_of_ble_eq_true rfl⟩ rfl rfl rfl s0_142 (Nat.le_of_ble_eq_true rfl) (by omega) rfl rfl (pm_zc _) (hq sc _ (by omega)) (fun r7 M6 hq => ?_)
            refine fr_istore_n (ls2 := [(2, 142), (0, a1), (0, a2), (0, r7)]) (pc := 36) dX12_run_36 rfl (Nat.le_of_ble_eq_true rfl) rfl ?_
            refine fr_iload_n (pc := 37) dX12_run_37 rfl rfl ?_
            refine fr_ifc_ne (tg := 48) (pc := 38) dX12_run_38 rfl hq (fun hc8 hq => ?_) (fun hc8 hq => ?_)
            · refine fr_aload_n (pc := 41) dX12_run_41 rfl rfl ?_
              refine fr_getf (a := 142) (i := 29) (v := gI M6 142 29) (t := 0) (pc := 42) dX12_run_42 rfl pf_12_258 rfl s0_142 rfl rfl ?_
              refine fr_goto (tg := 81) (pc := 45) dX12_run_45 rfl ?_
              exact fr_iret (pc := 81) dX12_run_81 (Or.inl rfl) hq
            · refine fr_iload_n (pc := 48) dX12_run_48 rfl rfl ?_
              refine fr_iconst (pc := 49) dX12_run_49 (by decide) ?_
              refine fr_icm_ne (tg := 60) (pc := 50) dX12_run_50 rfl hq (fun hc9 hq => ?_) (fun hc9 hq => ?_)
              · refine fr_aload_n (pc := 53) dX12_run_53 rfl rfl ?_
                refine fr_getf (a := 142) (i := 30) (v := gI M6 142 30) (t := 0) (pc := 54) dX12_run_54 rfl pf_12_287 rfl s0_142 rfl rfl ?_
                refine fr_goto (tg := 81) (pc := 57) dX12_run_57 rfl ?_
                exact fr_iret (pc := 81) dX12_run_81 (Or.inl rfl) hq
              · refine fr_iload_n (pc := 60) dX12_run_60 rfl rfl ?_
                refine fr_iconst (pc := 61) dX12_run_61 (by decide) ?_
                refine fr_icm_ne (tg := 72) (pc := 62) dX12_run_62 rfl hq (fun hc10 hq => ?_) (fun hc10 hq => ?_)
                · refine fr_aload_n (pc := 65) dX12_run_65 rfl rfl ?_
                  refine fr_getf (a := 142) (i := 28) (v := gI M6 142 28) (t := 0) (pc := 66) dX12_run_66 rfl pf_12_268 rfl s0_142 rfl rfl ?_
                  refine fr_goto (tg := 81) (pc := 69) dX12_run_69 rfl ?_
                  exact fr_iret (pc := 81) dX12_run_81 (Or.inl rfl) hq
                · refine fr_iload_n (pc := 72) dX12_run_72 rfl rfl ?_
                  refine fr_ifc_eq (tg := 80) (pc := 73) dX12_run_73 rfl hq (fun hc11 hq => ?_) (fun hc11 hq => ?_)
                  · refine fr_iconst (pc := 80) dX12_run_80 (by decide) ?_
                    exact fr_iret (pc := 81) dX12_run_81 (Or.inl rfl) hq
                  · refine fr_iconst (pc := 76) dX12_run_76 (by decide) ?_
                    refine fr_goto (tg := 81) (pc := 77) dX12_run_77 rfl ?_
                    exact fr_iret (pc := 81) dX12_run_81 (Or.inl rfl) hq
          · refine fr_iconst (pc := 14) dX12_within_14 (by decide) ?_
            refine fr_iret (pc := 15) dX12_within_15 (Or.inr (Or.inl ⟨rfl, Or.inl rfl⟩)) ?_
            refine fr_ifcF (tg := 31) (pc := 26) dX12_run_26 rfl rfl ?_
            refine fr_iconst (pc := 29) dX12_run_29 (by decide) ?_
            exact fr_iret (pc := 30) dX12_run_30 (Or.inl rfl) hq
      · refine fr_iconst (pc := 14) dX12_within_14 (by decide) ?_
        refine fr_iret (pc := 15) dX12_within_15 (Or.inr (Or.inl ⟨rfl, Or.inl rfl⟩)) ?_
        refine fr_iret (pc := 11) dX12_isTest_11 (Or.inr (Or.inl ⟨rfl, Or.inl rfl⟩)) ?_
        refine fr_ifcT (tg := 29) (pc := 17) dX12_run_17 rfl rfl ?_
        refine fr_iconst (pc := 29) dX12_run_29 (by decide) ?_
        exact fr_iret (pc := 30) dX12_run_30 (Or.inl rfl) hq
theorem k12_passes_r {a1 : Int} {M : pm_M} {K : Int → pm_M → Prop} (hq : k12_runs a1 M (fun M1 => (if gI M1 142 29 = 0 then ((0 ≤ w32 ((w32 (5 * a1)) + 3) ∧ w32 ((w32 (5 * a1)) + 3) < 80) ∧ (if gI M1 142 30 = gI M1 154 (w32 ((w32 (5 * a1)) + 3)) then K 1 M1 else K 0 M1)) else K 0 M1))) : k12_passes a1 M K := by
  intro sc d hd
  refine fr_aload_n (pc := 0) dX12_passes_0 rfl rfl ?_
  refine fr_iload_n (pc := 1) dX12_passes_1 rfl rfl ?_
  refine fr_inVV (a := 142) (as := [(0, a1)]) (rest := []) (ls' := [(2, 142), (0, a1), (9, 0)]) (c1 := 0) (c2 := 0) (pc := 2) dX12_passes_2 pl_12_296 rfl ⟨Nat.le_of_ble_eq_true rfl, Nat.le_of_ble_eq_true rfl⟩ rfl rfl rfl s0_142 (Nat.le_of_ble_eq_true rfl) (by omega) rfl rfl (pm_zc _) (hq sc _ (by omega)) (fun M1 hq => ?_)
  refine fr_aload_n (pc := 5) dX12_passes_5 rfl rfl ?_
  refine fr_getf (a := 142) (i := 29) (v := gI M1 142 29) (t := 0) (pc := 6) dX12_passes_6 rfl pf_12_258 rfl s0_142 rfl rfl ?_
  refine fr_ifc_ne (tg := 33) (pc := 9) dX12_passes_9 rfl hq (fun hc3 hq => ?_) (fun hc3 hq => ?_)
  · refine fr_aload_n (pc := 12) dX12_passes_12 rfl rfl ?_
    refine fr_getf (a := 142) (i := 30) (v := gI M1 142 30) (t := 0) (pc := 13) dX12_passes_13 rfl pf_12_287 rfl s0_142 rfl rfl ?_
    refine fr_aload_n (pc := 16) dX12_passes_16 rfl rfl ?_
    refine fr_getr (a := 142) (pc := 17) dX12_passes_17 rfl pf_12_44 s0_142 rfl rf_142_25 ?_
    refine fr_iconst (pc := 20) dX12_passes_20 (by decide) ?_
    refine fr_iload_n (pc := 21) dX12_passes_21 rfl rfl ?_
    refine fr_imul (z := w32 (5 * a1)) (pc := 22) dX12_passes_22 rfl ?_
    refine fr_iconst (pc := 23) dX12_passes_23 (by decide) ?_
    refine fr_iadd (z := w32 ((w32 (5 * a1)) + 3)) (pc := 24) dX12_passes_24 rfl ?_
    obtain ⟨hb4, hq⟩ := hq
    refine fr_iaload (a := 154) (v := gI M1 154 (w32 ((w32 (5 * a1)) + 3))) (pc := 25) dX12_passes_25 rfl s0_154 hb4 rfl ?_
    refine fr_icm_ne (tg := 33) (pc := 26) dX12_passes_26 rfl hq (fun hc5 hq => ?_) (fun hc5 hq => ?_)
    · refine fr_iconst (pc := 29) dX12_passes_29 (by decide) ?_
      refine fr_goto (tg := 34) (pc := 30) dX12_passes_30 rfl ?_
      exact fr_iret (pc := 34) dX12_passes_34 (Or.inr (Or.inl ⟨rfl, Or.inr rfl⟩)) hq
    · refine fr_iconst (pc := 33) dX12_passes_33 (by decide) ?_
      exact fr_iret (pc := 34) dX12_passes_34 (Or.inr (Or.inl ⟨rfl, Or.inl rfl⟩)) hq
  · refine fr_iconst (pc := 33) dX12_passes_33 (by decide) ?_
    exact fr_iret (pc := 34) dX12_passes_34 (Or.inr (Or.inl ⟨rfl, Or.inl rfl⟩)) hq
theorem k12_runs_r {a1 : Int} {M : pm_M} {K : pm_M → Prop} (hq : k12_runs_2 a1 0 M K) : k12_runs a1 M K := by
  intro sc d hd
  refine fr_iconst (pc := 0) dX12_runs_0 (by decide) ?_
  refine fr_istore_n (ls2 := [(2, 142), (0, a1), (0, 0)]) (pc := 1) dX12_runs_1 rfl (Nat.le_of_ble_eq_true rfl) rfl ?_
  exact hq sc d hd
theorem k12_runs_2_r {l1 l2 : Int} {M : pm_M} {K : pm_M → Prop} (hq : (if l2 < 9 then (if l2 < 3 then ((0 ≤ w32 ((w32 (5 * l1)) + l2) ∧ w32 ((w32 (5 * l1)) + l2) < 80) ∧ ((0 ≤ l2 ∧ l2 < 9) ∧ k12_runs_2 l1 (w32 (l2 + 1)) (upI M 156 l2 (gI M 154 (w32 ((w32 (5 * l1)) + l2)))) K)) else ((0 ≤ l2 ∧ l2 < 9) ∧ k12_runs_2 l1 (w32 (l2 + 1)) (upI M 156 l2 0) K)) else k12_runs_41 0 M K)) : k12_runs_2 l1 l2 M K := by
  intro sc d hd
  refine fr_iload_n (pc := 2) dX12_runs_2 rfl rfl ?_
  refine fr_bipush (pc := 3) dX12_runs_3 (by decide) ?_
  refine fr_icm_ge (tg := 39) (pc := 5) dX12_runs_5 rfl hq (fun hc1 hq => ?_) (fun hc1 hq => ?_)
  · refine fr_aload_n (pc := 8) dX12_runs_8 rfl rfl ?_
    refine fr_getr (a := 142) (pc := 9) dX12_runs_9 rfl pf_12_50 s0_142 rfl rf_142_27 ?_
    refine fr_iload_n (pc := 12) dX12_runs_12 rfl rfl ?_
    refine fr_iload_n (pc := 13) dX12_runs_13 rfl rfl ?_
    refine fr_iconst (pc := 14) dX12_runs_14 (by decide) ?_
    refine fr_icm_ge (tg := 31) (pc := 15) dX12_runs_15 rfl hq (fun hc2 hq => ?_) (fun hc2 hq => ?_)
    · refine fr_aload_n (pc := 18) dX12_runs_18 rfl rfl ?_
      refine fr_getr (a := 142) (pc := 19) dX12_runs_19 rfl pf_12_44 s0_142 rfl rf_142_25 ?_
      refine fr_iconst (pc := 22) dX12_runs_22 (by decide) ?_
      refine fr_iload_n (pc := 23) dX12_runs_23 rfl rfl ?_
      refine fr_imul (z := w32 (5 * l1)) (pc := 24) dX12_runs_24 rfl ?_
      refine fr_iload_n (pc := 25) dX12_runs_25 rfl rfl ?_
      refine fr_iadd (z := w32 ((w32 (5 * l1)) + l2)) (pc := 26) dX12_runs_26 rfl ?_
      obtain ⟨hb3, hq⟩ := hq
      refine fr_iaload (a := 154) (v := gI M 154 (w32 ((w32 (5 * l1)) + l2))) (pc := 27) dX12_runs_27 rfl s0_154 hb3 rfl ?_
      refine fr_goto (tg := 32) (pc := 28) dX12_runs_28 rfl ?_
      obtain ⟨hb4, hq⟩ := hq
      refine fr_iastore (a := 156) (pc := 32) dX12_runs_32 rfl s0_156 hb4 nr_156 ?_
      refine fr_iinc (z := w32 (l2 + 1)) (ls2 := [(2, 142), (0, l1), (0, w32 (l2 + 1))]) (pc := 33) dX12_runs_33 (Nat.le_of_ble_eq_true rfl) rfl rfl rfl ?_
      refine fr_goto (tg := 2) (pc := 36) dX12_runs_36 rfl ?_
      exact hq sc d hd
    · refine fr_iconst (pc := 31) dX12_runs_31 (by decide) ?_
      obtain ⟨hb5, hq⟩ := hq
      refine fr_iastore (a := 156) (pc := 32) dX12_runs_32 rfl s0_156 hb5 nr_156 ?_
      refine fr_iinc (z := w32 (l2 + 1)) (ls2 := [(2, 142), (0, l1), (0, w32 (l2 + 1))]) (pc := 33) dX12_runs_33 (Nat.le_of_ble_eq_true rfl) rfl rfl rfl ?_
      refine fr_goto (tg := 2) (pc := 36) dX12_runs_36 rfl ?_
      exact hq sc d hd
  · refine fr_iconst (pc := 39) dX12_runs_39 (by decide) ?_
    refine fr_istore_n (ls2 := [(2, 142), (0, l1), (0, 0)]) (pc := 40) dX12_runs_40 rfl (Nat.le_of_ble_eq_true rfl) rfl ?_
    exact hq sc d hd (0, l1) pm_t0
theorem k12_runs_41_r {l2 : Int} {M : pm_M} {K : pm_M → Prop} (hq : (if l2 < 60 then ((0 ≤ l2 ∧ l2 < 60) ∧ k12_runs_41 (w32 (l2 + 1)) (upI M 157 l2 0) K) else k12_goesRow 300 0 (upI (upI (upI (upI (upI M 142 28 0) 142 34 0) 142 29 0) 142 30 0) 142 31 0) (fun M3 => (if gI M3 142 29 = 0 then K (upI M3 142 30 (gI M3 142 30)) else K (upI M3 142 30 0))))) : k12_runs_41 l2 M K := by
  intro sc d hd z1 hz1
  refine fr_iload_n (pc := 41) dX12_runs_41 rfl rfl ?_
  refine fr_bipush (pc := 42) dX12_runs_42 (by decide) ?_
  refine fr_icm_ge (tg := 60) (pc := 44) dX12_runs_44 rfl hq (fun hc1 hq => ?_) (fun hc1 hq => ?_)
  · refine fr_aload_n (pc := 47) dX12_runs_47 rfl rfl ?_
    refine fr_getr (a := 142) (pc := 48) dX12_runs_48 rfl pf_12_53 s0_142 rfl rf_142_32 ?_
    refine fr_iload_n (pc := 51) dX12_runs_51 rfl rfl ?_
    refine fr_iconst (pc := 52) dX12_runs_52 (by decide) ?_
    obtain ⟨hb2, hq⟩ := hq
    refine fr_iastore (a := 157) (pc := 53) dX12_runs_53 rfl s0_157 hb2 nr_157 ?_
    refine fr_iinc (z := w32 (l2 + 1)) (ls2 := [(2, 142), z1, (0, w32 (l2 + 1))]) (pc := 54) dX12_runs_54 (Nat.le_of_ble_eq_true rfl) rfl rfl (pm_st1z hz1 rfl rfl) ?_
    refine fr_goto (tg := 41) (pc := 57) dX12_runs_57 rfl ?_
    exact hq sc d hd z1 hz1
  · refine fr_aload_n (pc := 60) dX12_runs_60 rfl rfl ?_
    refine fr_iconst (pc := 61) dX12_runs_61 (by decide) ?_
    refine fr_put (a := 142) (i := 28) (pc := 62) dX12_runs_62 rfl pf_12_268 rfl s0_142 rfl rfl nf_142_28 rfl ?_
    refine fr_aload_n (pc := 65) dX12_runs_65 rfl rfl ?_
    refine fr_iconst (pc := 66) dX12_runs_66 (by decide) ?_
    refine fr_put (a := 142) (i := 34) (pc := 67) dX12_runs_67 rfl pf_12_274 rfl s0_142 rfl rfl nf_142_34 rfl ?_
    refine fr_aload_n (pc := 70) dX12_runs_70 rfl rfl ?_
    refine fr_iconst (pc := 71) dX12_runs_71 (by decide) ?_
    refine fr_put (a := 142) (i := 29) (pc := 72) dX12_runs_72 rfl pf_12_258 rfl s0_142 rfl rfl nf_142_29 rfl ?_
    refine fr_aload_n (pc := 75) dX12_runs_75 rfl rfl ?_
    refine fr_iconst (pc := 76) dX12_runs_76 (by decide) ?_
    refine fr_put (a := 142) (i := 30) (pc := 77) dX12_runs_77 rfl pf_12_287 rfl s0_142 rfl rfl nf_142_30 rfl ?_
    refine fr_aload_n (pc := 80) dX12_runs_80 rfl rfl ?_
    refine fr_iconst (pc := 81) dX12_runs_81 (by decide) ?_
    refine fr_put (a := 142) (i := 31) (pc := 82) dX12_runs_82 rfl pf_12_264 rfl s0_142 rfl rfl nf_142_31 rfl ?_
    refine fr_aload_n (pc := 85) dX12_runs_85 rfl rfl ?_
    refine fr_iconst (pc := 86) dX12_runs_86 (by decide) ?_
    refine fr_inVV (a := 142) (as := [(0, 0)]) (rest := []) (ls' := [(2, 142), (0, 0), (9, 0)]) (c1 := 0) (c2 := 0) (pc := 87) dX12_runs_87 pl_12_293 rfl ⟨Nat.le_of_ble_eq_true rfl, Nat.le_of_ble_eq_true rfl⟩ rfl rfl rfl s0_142 (Nat.le_of_ble_eq_true rfl) (by omega) rfl rfl (pm_zc _) (hq sc _ (by omega)) (fun M3 hq => ?_)
    refine fr_aload_n (pc := 90) dX12_runs_90 rfl rfl ?_
    refine fr_aload_n (pc := 91) dX12_runs_91 rfl rfl ?_
    refine fr_getf (a := 142) (i := 29) (v := gI M3 142 29) (t := 0) (pc := 92) dX12_runs_92 rfl pf_12_258 rfl s0_142 rfl rfl ?_
    refine fr_ifc_ne (tg := 105) (pc := 95) dX12_runs_95 rfl hq (fun hc5 hq => ?_) (fun hc5 hq => ?_)
    · refine fr_aload_n (pc := 98) dX12_runs_98 rfl rfl ?_
      refine fr_getf (a := 142) (i := 30) (v := gI M3 142 30) (t := 0) (pc := 99) dX12_runs_99 rfl pf_12_287 rfl s0_142 rfl rfl ?_
      refine fr_goto (tg := 106) (pc := 102) dX12_runs_102 rfl ?_
      refine fr_put (a := 142) (i := 30) (pc := 106) dX12_runs_106 rfl pf_12_287 rfl s0_142 rfl rfl nf_142_30 rfl ?_
      exact fr_vret (pc := 109) dX12_runs_109 rfl hq
    · refine fr_iconst (pc := 105) dX12_runs_105 (by decide) ?_
      refine fr_put (a := 142) (i := 30) (pc := 106) dX12_runs_106 rfl pf_12_287 rfl s0_142 rfl rfl nf_142_30 rfl ?_
      exact fr_vret (pc := 109) dX12_runs_109 rfl hq

-- needs 30 31 32
theorem k12_goesRow_r {h : Nat} {a1 : Int} {M : pm_M} {K : pm_M → Prop} (hh : 102 ≤ h) (hq : k12_goesRow_2 h a1 M K) : k12_goesRow h a1 M K := by
  intro sc d hd
  refine fr_iload_n (pc := 0) dX12_goesRow_0 rfl rfl ?_
  refine fr_istore_n (ls2 := [(2, 142), (0, a1), (0, a1)]) (pc := 1) dX12_goesRow_1 rfl (Nat.le_of_ble_eq_true rfl) rfl ?_
  exact hq sc d hd (0, a1) pm_t0
theorem k12_goesRow_2_r {h : Nat} {l2 : Int} {M : pm_M} {K : pm_M → Prop} (hh : 102 ≤ h) (hq : (if l2 = (-1) then K M else (if gI M 142 29 = 0 then (if gI M 142 31 = 0 then ((0 ≤ l2 ∧ l2 < 60) ∧ (if pm_iand (gI M 153 l2) 1 ≤ 0 then k12_goes (h - 1) l2 M (fun M6 => k12_goesRow_2 h (gI M6 152 l2) M6 K) else k12_goesRow_2 h (gI M 152 l2) M K)) else K M) else K M))) : k12_goesRow_2 h l2 M K := by
  intro sc d hd z1 hz1
  refine fr_iload_n (pc := 2) dX12_goesRow_2 rfl rfl ?_
  refine fr_iconst (pc := 3) dX12_goesRow_3 (by decide) ?_
  refine fr_icm_eq (tg := 37) (pc := 4) dX12_goesRow_4 rfl hq (fun hc1 hq => ?_) (fun hc1 hq => ?_)
  · exact fr_vret (pc := 37) dX12_goesRow_37 rfl hq
  · refine fr_aload_n (pc := 7) dX12_goesRow_7 rfl rfl ?_
    refine fr_inVI (a := 142) (as := []) (rest := []) (ls' := [(2, 142)]) (c1 := 0) (c2 := 0) (pc := 8) dX12_goesRow_8 pl_12_277 rfl ⟨Nat.le_of_ble_eq_true rfl, Nat.le_of_ble_eq_true rfl⟩ rfl rfl rfl s0_142 (Nat.le_of_ble_eq_true rfl) (by omega) rfl rfl (pm_zc _) ?_ (fun y M' h => h)
    refine fr_aload_n (pc := 0) dX12_isOn_0 rfl rfl ?_
    refine fr_getf (a := 142) (i := 29) (v := gI M 142 29) (t := 0) (pc := 1) dX12_isOn_1 rfl pf_12_258 rfl s0_142 rfl rfl ?_
    refine fr_ifc_ne (tg := 18) (pc := 4) dX12_isOn_4 rfl hq (fun hc2 hq => ?_) (fun hc2 hq => ?_)
    · refine fr_aload_n (pc := 7) dX12_isOn_7 rfl rfl ?_
      refine fr_getf (a := 142) (i := 31) (v := gI M 142 31) (t := 0) (pc := 8) dX12_isOn_8 rfl pf_12_264 rfl s0_142 rfl rfl ?_
      refine fr_ifc_ne (tg := 18) (pc := 11) dX12_isOn_11 rfl hq (fun hc3 hq => ?_) (fun hc3 hq => ?_)
      · refine fr_iconst (pc := 14) dX12_isOn_14 (by decide) ?_
        refine fr_goto (tg := 19) (pc := 15) dX12_isOn_15 rfl ?_
        refine fr_iret (pc := 19) dX12_isOn_19 (Or.inr (Or.inl ⟨rfl, Or.inr rfl⟩)) ?_
        refine fr_ifcF (tg := 37) (pc := 11) dX12_goesRow_11 rfl rfl ?_
        refine fr_aload_n (pc := 14) dX12_goesRow_14 rfl rfl ?_
        refine fr_iload_n (pc := 15) dX12_goesRow_15 rfl rfl ?_
        refine fr_inVI (a := 142) (as := [(0, l2)]) (rest := []) (ls' := [(2, 142), (0, l2)]) (c1 := 0) (c2 := 0) (pc := 16) dX12_goesRow_16 pl_12_252 rfl ⟨Nat.le_of_ble_eq_true rfl, Nat.le_of_ble_eq_true rfl⟩ rfl rfl rfl s0_142 (Nat.le_of_ble_eq_true rfl) (by omega) rfl rfl (pm_zc _) ?_ (fun y M' h => h)
        refine fr_aload_n (pc := 0) dX12_isOut_0 rfl rfl ?_
        refine fr_getr (a := 142) (pc := 1) dX12_isOut_1 rfl pf_12_41 s0_142 rfl rf_142_23 ?_
        refine fr_iload_n (pc := 4) dX12_isOut_4 rfl rfl ?_
        obtain ⟨hb4, hq⟩ := hq
        refine fr_iaload (a := 153) (v := gI M 153 l2) (pc := 5) dX12_isOut_5 rfl s0_153 hb4 rfl ?_
        refine fr_iconst (pc := 6) dX12_isOut_6 (by decide) ?_
        refine fr_iand (z := pm_iand (gI M 153 l2) 1) (pc := 7) dX12_isOut_7 rfl ?_
        refine fr_ifc_le (tg := 15) (pc := 8) dX12_isOut_8 rfl hq (fun hc5 hq => ?_) (fun hc5 hq => ?_)
        · refine fr_iconst (pc := 15) dX12_isOut_15 (by decide) ?_
          refine fr_iret (pc := 16) dX12_isOut_16 (Or.inr (Or.inl ⟨rfl, Or.inl rfl⟩)) ?_
          refine fr_ifcF (tg := 27) (pc := 19) dX12_goesRow_19 rfl rfl ?_
          refine fr_aload_n (pc := 22) dX12_goesRow_22 rfl rfl ?_
          refine fr_iload_n (pc := 23) dX12_goesRow_23 rfl rfl ?_
          refine fr_inVV (a := 142) (as := [(0, l2)]) (rest := []) (ls' := [(2, 142), (0, l2), (9, 0), (9, 0)]) (c1 := 0) (c2 := 0) (pc := 24) dX12_goesRow_24 pl_12_281 rfl ⟨Nat.le_of_ble_eq_true rfl, Nat.le_of_ble_eq_true rfl⟩ rfl rfl rfl s0_142 (Nat.le_of_ble_eq_true rfl) (by omega) rfl rfl (pm_zc _) (hq sc _ (by omega)) (fun M6 hq => ?_)
          refine fr_aload_n (pc := 27) dX12_goesRow_27 rfl rfl ?_
          refine fr_getr (a := 142) (pc := 28) dX12_goesRow_28 rfl pf_12_38 s0_142 rfl rf_142_17 ?_
          refine fr_iload_n (pc := 31) dX12_goesRow_31 rfl rfl ?_
          refine fr_iaload (a := 152) (v := gI M6 152 l2) (pc := 32) dX12_goesRow_32 rfl s0_152 ⟨hb4.1, by omega⟩ rfl ?_
          refine fr_istore_n (ls2 := [(2, 142), z1, (0, gI M6 152 l2)]) (pc := 33) dX12_goesRow_33 rfl (Nat.le_of_ble_eq_true rfl) (pm_st1z hz1 rfl rfl) ?_
          refine fr_goto (tg := 2) (pc := 34) dX12_goesRow_34 rfl ?_
          exact hq sc d hd z1 hz1
        · refine fr_iconst (pc := 11) dX12_isOut_11 (by decide) ?_
          refine fr_goto (tg := 16) (pc := 12) dX12_isOut_12 rfl ?_
          refine fr_iret (pc := 16) dX12_isOut_16 (Or.inr (Or.inl ⟨rfl, Or.inr rfl⟩)) ?_
          refine fr_ifcT (tg := 27) (pc := 19) dX12_goesRow_19 rfl rfl ?_
          refine fr_aload_n (pc := 27) dX12_goesRow_27 rfl rfl ?_
          refine fr_getr (a := 142) (pc := 28) dX12_goesRow_28 rfl pf_12_38 s0_142 rfl rf_142_17 ?_
          refine fr_iload_n (pc := 31) dX12_goesRow_31 rfl rfl ?_
          refine fr_iaload (a := 152) (v := gI M 152 l2) (pc := 32) dX12_goesRow_32 rfl s0_152 ⟨hb4.1, by omega⟩ rfl ?_
          refine fr_istore_n (ls2 := [(2, 142), z1, (0, gI M 152 l2)]) (pc := 33) dX12_goesRow_33 rfl (Nat.le_of_ble_eq_true rfl) (pm_st1z hz1 rfl rfl) ?_
          refine fr_goto (tg := 2) (pc := 34) dX12_goesRow_34 rfl ?_
          exact hq sc d hd z1 hz1
      · refine fr_iconst (pc := 18) dX12_isOn_18 (by decide) ?_
        refine fr_iret (pc := 19) dX12_isOn_19 (Or.inr (Or.inl ⟨rfl, Or.inl rfl⟩)) ?_
        refine fr_ifcT (tg := 37) (pc := 11) dX12_goesRow_11 rfl rfl ?_
        exact fr_vret (pc := 37) dX12_goesRow_37 rfl hq
    · refine fr_iconst (pc := 18) dX12_isOn_18 (by decide) ?_
      refine fr_iret (pc := 19) dX12_isOn_19 (Or.inr (Or.inl ⟨rfl, Or.inl rfl⟩)) ?_
      refine fr_ifcT (tg := 37) (pc := 11) dX12_goesRow_11 rfl rfl ?_
      exact fr_vret (pc := 37) dX12_goesRow_37 rfl hq
theorem k12_goes_r {h : Nat} {a1 : Int} {M : pm_M} {K : pm_M → Prop} (hh : 102 ≤ h) (hq : (if gI M 142 28 = 300 then K (upI M 142 29 2) else ((0 ≤ gI M 142 28 ∧ gI M 142 28 < 300) ∧ ((0 ≤ a1 ∧ a1 < 60) ∧ (if gI M 145 a1 = 0 then k12_worth 100 (gI M 148 a1) (upI (upI (upI M 158 (gI M 142 28) a1) 142 28 (w32 ((gI M 142 28) + 1))) 157 a1 (w32 ((gI M 157 a1) + 1))) (fun r6 M5 => (if gI M5 142 29 = 0 then ((0 ≤ gI M5 146 a1 ∧ gI M5 146 a1 < 9) ∧ K (upI M5 156 (gI M5 146 a1) r6)) else ((0 ≤ gI M5 146 a1 ∧ gI M5 146 a1 < 9) ∧ K (upI M5 156 (gI M5 146 a1) (gI M5 156 (gI M5 146 a1)))))) else (if gI M 145 a1 = 1 then k12_comesOut a1 (upI (upI (upI M 158 (gI M 142 28) a1) 142 28 (w32 ((gI M 142 28) + 1))) 157 a1 (w32 ((gI M 157 a1) + 1))) (fun r12 M11 => (if gI M11 142 29 = 0 then (if r12 = 0 then k12_goesRow (h - 1) (gI M11 151 a1) M11 (fun M15 => K M15) else k12_goesRow (h - 1) (gI M11 150 a1) M11 (fun M17 => K M17)) else K M11)) else (if gI M 145 a1 = 2 then k12_goes_176 h a1 (upI (upI (upI M 158 (gI M 142 28) a1) 142 28 (w32 ((gI M 142 28) + 1))) 157 a1 (w32 ((gI M 157 a1) + 1))) K else (if gI M 145 a1 = 3 then k12_worth 100 (gI M 148 a1) (upI (upI (upI M 158 (gI M 142 28) a1) 142 28 (w32 ((gI M 142 28) + 1))) 157 a1 (w32 ((gI M 157 a1) + 1))) (fun r22 M21 => (if gI M21 142 29 = 0 then K (upI (upI M21 142 30 r22) 142 31 1) else K (upI (upI M21 142 30 0) 142 31 0))) else k12_goes_176 h a1 (upI (upI (upI M 158 (gI M 142 28) a1) 142 28 (w32 ((gI M 142 28) + 1))) 157 a1 (w32 ((gI M 157 a1) + 1))) K)))))))) : k12_goes h a1 M K := by
  intro sc d hd
  refine fr_aload_n (pc := 0) dX12_goes_0 rfl rfl ?_
  refine fr_iload_n (pc := 1) dX12_goes_1 rfl rfl ?_
  refine fr_inVI (a := 142) (as := [(0, a1)]) (rest := []) (ls' := [(2, 142), (0, a1)]) (c1 := 0) (c2 := 0) (pc := 2) dX12_goes_2 pl_12_284 rfl ⟨Nat.le_of_ble_eq_true rfl, Nat.le_of_ble_eq_true rfl⟩ rfl rfl rfl s0_142 (Nat.le_of_ble_eq_true rfl) (by omega) rfl rfl (pm_zc _) ?_ (fun y M' h => h)
  refine fr_aload_n (pc := 0) dX12_step_0 rfl rfl ?_
  refine fr_getf (a := 142) (i := 28) (v := gI M 142 28) (t := 0) (pc := 1) dX12_step_1 rfl pf_12_268 rfl s0_142 rfl rfl ?_
  refine fr_sipush (pc := 4) dX12_step_4 (by decide) ?_
  refine fr_icm_ne (tg := 17) (pc := 7) dX12_step_7 rfl hq (fun hc1 hq => ?_) (fun hc1 hq => ?_)
  · refine fr_aload_n (pc := 10) dX12_step_10 rfl rfl ?_
    refine fr_iconst (pc := 11) dX12_step_11 (by decide) ?_
    refine fr_put (a := 142) (i := 29) (pc := 12) dX12_step_12 rfl pf_12_258 rfl s0_142 rfl rfl nf_142_29 rfl ?_
    refine fr_iconst (pc := 15) dX12_step_15 (by decide) ?_
    refine fr_iret (pc := 16) dX12_step_16 (Or.inr (Or.inl ⟨rfl, Or.inl rfl⟩)) ?_
    refine fr_ifcF (tg := 9) (pc := 5) dX12_goes_5 rfl rfl ?_
    exact fr_vret (pc := 8) dX12_goes_8 rfl hq
  · refine fr_aload_n (pc := 17) dX12_step_17 rfl rfl ?_
    refine fr_getr (a := 142) (pc := 18) dX12_step_18 rfl pf_12_56 s0_142 rfl rf_142_33 ?_
    refine fr_aload_n (pc := 21) dX12_step_21 rfl rfl ?_
    refine fr_getf (a := 142) (i := 28) (v := gI M 142 28) (t := 0) (pc := 22) dX12_step_22 rfl pf_12_268 rfl s0_142 rfl rfl ?_
    refine fr_iload_n (pc := 25) dX12_step_25 rfl rfl ?_
    obtain ⟨hb2, hq⟩ := hq
    refine fr_iastore (a := 158) (pc := 26) dX12_step_26 rfl s0_158 hb2 nr_158 ?_
    refine fr_aload_n (pc := 27) dX12_step_27 rfl rfl ?_
    refine fr_dup (pc := 28) dX12_step_28 pm_t2 ?_
    refine fr_getf (a := 142) (i := 28) (v := gI M 142 28) (t := 0) (pc := 29) dX12_step_29 rfl pf_12_268 rfl s0_142 rfl (gI_ne _ _ _ _ (by decide)) ?_
    refine fr_iconst (pc := 32) dX12_step_32 (by decide) ?_
    refine fr_iadd (z := w32 ((gI M 142 28) + 1)) (pc := 33) dX12_step_33 rfl ?_
    refine fr_put (a := 142) (i := 28) (pc := 34) dX12_step_34 rfl pf_12_268 rfl s0_142 rfl rfl nf_142_28 rfl ?_
    refine fr_aload_n (pc := 37) dX12_step_37 rfl rfl ?_
    refine fr_getr (a := 142) (pc := 38) dX12_step_38 rfl pf_12_53 s0_142 rfl rf_142_32 ?_
    refine fr_iload_n (pc := 41) dX12_step_41 rfl rfl ?_
    refine fr_dup2 (pc := 42) dX12_step_42 pm_t0 pm_t2 ?_
    obtain ⟨hb3, hq⟩ := hq
    refine fr_iaload (a := 157) (v := gI M 157 a1) (pc := 43) dX12_step_43 rfl s0_157 hb3 ((gI_ne _ _ _ _ (by decide)).trans (gI_ne _ _ _ _ (by decide))) ?_
    refine fr_iconst (pc := 44) dX12_step_44 (by decide) ?_
    refine fr_iadd (z := w32 ((gI M 157 a1) + 1)) (pc := 45) dX12_step_45 rfl ?_
    refine fr_iastore (a := 157) (pc := 46) dX12_step_46 rfl s0_157 hb3 nr_157 ?_
    refine fr_iconst (pc := 47) dX12_step_47 (by decide) ?_
    refine fr_iret (pc := 48) dX12_step_48 (Or.inr (Or.inl ⟨rfl, Or.inr rfl⟩)) ?_
    refine fr_ifcT (tg := 9) (pc := 5) dX12_goes_5 rfl rfl ?_
    refine fr_aload_n (pc := 9) dX12_goes_9 rfl rfl ?_
    refine fr_getr (a := 142) (pc := 10) dX12_goes_10 rfl pf_12_17 s0_142 rfl rf_142_10 ?_
    refine fr_iload_n (pc := 13) dX12_goes_13 rfl rfl ?_
    refine fr_iaload (a := 145) (v := gI M 145 a1) (pc := 14) dX12_goes_14 rfl s0_145 ⟨hb3.1, by omega⟩ ((gI_ne _ _ _ _ (by decide)).trans ((gI_ne _ _ _ _ (by decide)).trans (gI_ne _ _ _ _ (by decide)))) ?_
    refine pm_ite hq (fun hc4 hq => ?_) (fun hc4 hq => ?_)
    · refine fr_tabV (tg := 44) (off := 29) (v := 0) (pc := 15) dX12_goes_15 hc4 (by decide) rfl rfl ?_
      refine fr_aload_n (pc := 44) dX12_goes_44 rfl rfl ?_
      refine fr_aload_n (pc := 45) dX12_goes_45 rfl rfl ?_
      refine fr_getr (a := 142) (pc := 46) dX12_goes_46 rfl pf_12_26 s0_142 rfl rf_142_13 ?_
      refine fr_iload_n (pc := 49) dX12_goes_49 rfl rfl ?_
      refine fr_iaload (a := 148) (v := gI M 148 a1) (pc := 50) dX12_goes_50 rfl s0_148 ⟨hb3.1, by omega⟩ ((gI_ne _ _ _ _ (by decide)).trans ((gI_ne _ _ _ _ (by decide)).trans (gI_ne _ _ _ _ (by decide)))) ?_
      refine fr_inVI (a := 142) (as := [(0, gI M 148 a1)]) (rest := []) (ls' := [(2, 142), (0, gI M 148 a1), (9, 0), (9, 0), (9, 0)]) (c1 := 0) (c2 := 0) (pc := 51) dX12_goes_51 pl_12_255 rfl ⟨Nat.le_of_ble_eq_true rfl, Nat.le_of_ble_eq_true rfl⟩ rfl rfl rfl s0_142 (Nat.le_of_ble_eq_true rfl) (by omega) rfl rfl (pm_zc _) (hq sc _ (by omega)) (fun r6 M5 hq => ?_)
      refine fr_istore_n (ls2 := [(2, 142), (0, a1), (0, r6), (9, 0)]) (pc := 54) dX12_goes_54 rfl (Nat.le_of_ble_eq_true rfl) rfl ?_
      refine fr_aload_n (pc := 55) dX12_goes_55 rfl rfl ?_
      refine fr_getr (a := 142) (pc := 56) dX12_goes_56 rfl pf_12_50 s0_142 rfl rf_142_27 ?_
      refine fr_aload_n (pc := 59) dX12_goes_59 rfl rfl ?_
      refine fr_getr (a := 142) (pc := 60) dX12_goes_60 rfl pf_12_20 s0_142 rfl rf_142_11 ?_
      refine fr_iload_n (pc := 63) dX12_goes_63 rfl rfl ?_
      refine fr_iaload (a := 146) (v := gI M5 146 a1) (pc := 64) dX12_goes_64 rfl s0_146 ⟨hb3.1, by omega⟩ rfl ?_
      refine fr_aload_n (pc := 65) dX12_goes_65 rfl rfl ?_
      refine fr_getf (a := 142) (i := 29) (v := gI M5 142 29) (t := 0) (pc := 66) dX12_goes_66 rfl pf_12_258 rfl s0_142 rfl rfl ?_
      refine fr_ifc_ne (tg := 76) (pc := 69) dX12_goes_69 rfl hq (fun hc7 hq => ?_) (fun hc7 hq => ?_)
      · refine fr_iload_n (pc := 72) dX12_goes_72 rfl rfl ?_
        refine fr_goto (tg := 87) (pc := 73) dX12_goes_73 rfl ?_
        obtain ⟨hb8, hq⟩ := hq
        refine fr_iastore (a := 156) (pc := 87) dX12_goes_87 rfl s0_156 hb8 nr_156 ?_
        refine fr_goto (tg := 217) (pc := 88) dX12_goes_88 rfl ?_
        exact fr_vret (pc := 217) dX12_goes_217 rfl hq
      · refine fr_aload_n (pc := 76) dX12_goes_76 rfl rfl ?_
        refine fr_getr (a := 142) (pc := 77) dX12_goes_77 rfl pf_12_50 s0_142 rfl rf_142_27 ?_
        refine fr_aload_n (pc := 80) dX12_goes_80 rfl rfl ?_
        refine fr_getr (a := 142) (pc := 81) dX12_goes_81 rfl pf_12_20 s0_142 rfl rf_142_11 ?_
        refine fr_iload_n (pc := 84) dX12_goes_84 rfl rfl ?_
        refine fr_iaload (a := 146) (v := gI M5 146 a1) (pc := 85) dX12_goes_85 rfl s0_146 ⟨hb3.1, by omega⟩ rfl ?_
        obtain ⟨hb9, hq⟩ := hq
        refine fr_iaload (a := 156) (v := gI M5 156 (gI M5 146 a1)) (pc := 86) dX12_goes_86 rfl s0_156 hb9 rfl ?_
        refine fr_iastore (a := 156) (pc := 87) dX12_goes_87 rfl s0_156 hb9 nr_156 ?_
        refine fr_goto (tg := 217) (pc := 88) dX12_goes_88 rfl ?_
        exact fr_vret (pc := 217) dX12_goes_217 rfl hq
    · refine pm_ite hq (fun hc10 hq => ?_) (fun hc10 hq => ?_)
      · refine fr_tabV (tg := 137) (off := 122) (v := 1) (pc := 15) dX12_goes_15 hc10 (by decide) rfl rfl ?_
        refine fr_aload_n (pc := 137) dX12_goes_137 rfl rfl ?_
        refine fr_iload_n (pc := 138) dX12_goes_138 rfl rfl ?_
        refine fr_inVI (a := 142) (as := [(0, a1)]) (rest := []) (ls' := [(2, 142), (0, a1), (9, 0), (9, 0)]) (c1 := 0) (c2 := 0) (pc := 139) dX12_goes_139 pl_12_290 rfl ⟨Nat.le_of_ble_eq_true rfl, Nat.le_of_ble_eq_true rfl⟩ rfl rfl rfl s0_142 (Nat.le_of_ble_eq_true rfl) (by omega) rfl rfl (pm_zc _) (hq sc _ (by omega)) (fun r12 M11 hq => ?_)
        refine fr_istore_n (ls2 := [(2, 142), (0, a1), (9, 0), (0, r12)]) (pc := 142) dX12_goes_142 rfl (Nat.le_of_ble_eq_true rfl) rfl ?_
        refine fr_aload_n (pc := 143) dX12_goes_143 rfl rfl ?_
        refine fr_getf (a := 142) (i := 29) (v := gI M11 142 29) (t := 0) (pc := 144) dX12_goes_144 rfl pf_12_258 rfl s0_142 rfl rfl ?_
        refine fr_ifc_ne (tg := 217) (pc := 147) dX12_goes_147 rfl hq (fun hc13 hq => ?_) (fun hc13 hq => ?_)
        · refine fr_aload_n (pc := 150) dX12_goes_150 rfl rfl ?_
          refine fr_iload_n (pc := 151) dX12_goes_151 rfl rfl ?_
          refine fr_ifc_eq (tg := 164) (pc := 152) dX12_goes_152 rfl hq (fun hc14 hq => ?_) (fun hc14 hq => ?_)
          · refine fr_aload_n (pc := 164) dX12_goes_164 rfl rfl ?_
            refine fr_getr (a := 142) (pc := 165) dX12_goes_165 rfl pf_12_35 s0_142 rfl rf_142_16 ?_
            refine fr_iload_n (pc := 168) dX12_goes_168 rfl rfl ?_
            refine fr_iaload (a := 151) (v := gI M11 151 a1) (pc := 169) dX12_goes_169 rfl s0_151 ⟨hb3.1, by omega⟩ rfl ?_
            refine fr_inVV (a := 142) (as := [(0, gI M11 151 a1)]) (rest := []) (ls' := [(2, 142), (0, gI M11 151 a1), (9, 0)]) (c1 := 0) (c2 := 0) (pc := 170) dX12_goes_170 pl_12_293 rfl ⟨Nat.le_of_ble_eq_true rfl, Nat.le_of_ble_eq_true rfl⟩ rfl rfl rfl s0_142 (Nat.le_of_ble_eq_true rfl) (by omega) rfl rfl (pm_zc _) (hq sc _ (by omega)) (fun M15 hq => ?_)
            refine fr_goto (tg := 217) (pc := 173) dX12_goes_173 rfl ?_
            exact fr_vret (pc := 217) dX12_goes_217 rfl hq
          · refine fr_aload_n (pc := 155) dX12_goes_155 rfl rfl ?_
            refine fr_getr (a := 142) (pc := 156) dX12_goes_156 rfl pf_12_32 s0_142 rfl rf_142_15 ?_
            refine fr_iload_n (pc := 159) dX12_goes_159 rfl rfl ?_
            refine fr_iaload (a := 150) (v := gI M11 150 a1) (pc := 160) dX12_goes_160 rfl s0_150 ⟨hb3.1, by omega⟩ rfl ?_
            refine fr_goto (tg := 170) (pc := 161) dX12_goes_161 rfl ?_
            refine fr_inVV (a := 142) (as := [(0, gI M11 150 a1)]) (rest := []) (ls' := [(2, 142), (0, gI M11 150 a1), (9, 0)]) (c1 := 0) (c2 := 0) (pc := 170) dX12_goes_170 pl_12_293 rfl ⟨Nat.le_of_ble_eq_true rfl, Nat.le_of_ble_eq_true rfl⟩ rfl rfl rfl s0_142 (Nat.le_of_ble_eq_true rfl) (by omega) rfl rfl (pm_zc _) (hq sc _ (by omega)) (fun M17 hq => ?_)
            refine fr_goto (tg := 217) (pc := 173) dX12_goes_173 rfl ?_
            exact fr_vret (pc := 217) dX12_goes_217 rfl hq
        · exact fr_vret (pc := 217) dX12_goes_217 rfl hq
      · refine pm_ite hq (fun hc19 hq => ?_) (fun hc19 hq => ?_)
        · refine fr_tabV (tg := 176) (off := 161) (v := 2) (pc := 15) dX12_goes_15 hc19 (by decide) rfl rfl ?_
          exact hq sc d hd (9, 0) pm_t9 (9, 0) pm_t9
        · refine pm_ite hq (fun hc20 hq => ?_) (fun hc20 hq => ?_)
          · refine fr_tabV (tg := 91) (off := 76) (v := 3) (pc := 15) dX12_goes_15 hc20 (by decide) rfl rfl ?_
            refine fr_aload_n (pc := 91) dX12_goes_91 rfl rfl ?_
            refine fr_aload_n (pc := 92) dX12_goes_92 rfl rfl ?_
            refine fr_getr (a := 142) (pc := 93) dX12_goes_93 rfl pf_12_26 s0_142 rfl rf_142_13 ?_
            refine fr_iload_n (pc := 96) dX12_goes_96 rfl rfl ?_
            refine fr_iaload (a := 148) (v := gI M 148 a1) (pc := 97) dX12_goes_97 rfl s0_148 ⟨hb3.1, by omega⟩ ((gI_ne _ _ _ _ (by decide)).trans ((gI_ne _ _ _ _ (by decide)).trans (gI_ne _ _ _ _ (by decide)))) ?_
            refine fr_inVI (a := 142) (as := [(0, gI M 148 a1)]) (rest := []) (ls' := [(2, 142), (0, gI M 148 a1), (9, 0), (9, 0), (9, 0)]) (c1 := 0) (c2 := 0) (pc := 98) dX12_goes_98 pl_12_255 rfl ⟨Nat.le_of_ble_eq_true rfl, Nat.le_of_ble_eq_true rfl⟩ rfl rfl rfl s0_142 (Nat.le_of_ble_eq_true rfl) (by omega) rfl rfl (pm_zc _) (hq sc _ (by omega)) (fun r22 M21 hq => ?_)
            refine fr_istore_n (ls2 := [(2, 142), (0, a1), (0, r22), (9, 0)]) (pc := 101) dX12_goes_101 rfl (Nat.le_of_ble_eq_true rfl) rfl ?_
            refine fr_aload_n (pc := 102) dX12_goes_102 rfl rfl ?_
            refine fr_aload_n (pc := 103) dX12_goes_103 rfl rfl ?_
            refine fr_getf (a := 142) (i := 29) (v := gI M21 142 29) (t := 0) (pc := 104) dX12_goes_104 rfl pf_12_258 rfl s0_142 rfl rfl ?_
            refine fr_ifc_ne (tg := 114) (pc := 107) dX12_goes_107 rfl hq (fun hc23 hq => ?_) (fun hc23 hq => ?_)
            · refine fr_iload_n (pc := 110) dX12_goes_110 rfl rfl ?_
              refine fr_goto (tg := 115) (pc := 111) dX12_goes_111 rfl ?_
              refine fr_put (a := 142) (i := 30) (pc := 115) dX12_goes_115 rfl pf_12_287 rfl s0_142 rfl rfl nf_142_30 rfl ?_
              refine fr_aload_n (pc := 118) dX12_goes_118 rfl rfl ?_
              refine fr_aload_n (pc := 119) dX12_goes_119 rfl rfl ?_
              refine fr_getf (a := 142) (i := 29) (v := gI M21 142 29) (t := 0) (pc := 120) dX12_goes_120 rfl pf_12_258 rfl s0_142 rfl (gI_nf _ _ (by decide)) ?_
              refine fr_ifcF (tg := 130) (pc := 123) dX12_goes_123 (decide_eq_false (fun z => z hc23)) rfl ?_
              refine fr_iconst (pc := 126) dX12_goes_126 (by decide) ?_
              refine fr_goto (tg := 131) (pc := 127) dX12_goes_127 rfl ?_
              refine fr_put (a := 142) (i := 31) (pc := 131) dX12_goes_131 rfl pf_12_264 rfl s0_142 rfl rfl nf_142_31 rfl ?_
              refine fr_goto (tg := 217) (pc := 134) dX12_goes_134 rfl ?_
              exact fr_vret (pc := 217) dX12_goes_217 rfl hq
            · refine fr_iconst (pc := 114) dX12_goes_114 (by decide) ?_
              refine fr_put (a := 142) (i := 30) (pc := 115) dX12_goes_115 rfl pf_12_287 rfl s0_142 rfl rfl nf_142_30 rfl ?_
              refine fr_aload_n (pc := 118) dX12_goes_118 rfl rfl ?_
              refine fr_aload_n (pc := 119) dX12_goes_119 rfl rfl ?_
              refine fr_getf (a := 142) (i := 29) (v := gI M21 142 29) (t := 0) (pc := 120) dX12_goes_120 rfl pf_12_258 rfl s0_142 rfl (gI_nf _ _ (by decide)) ?_
              refine fr_ifcT (tg := 130) (pc := 123) dX12_goes_123 (decide_eq_true hc23) rfl ?_
              refine fr_iconst (pc := 130) dX12_goes_130 (by decide) ?_
              refine fr_put (a := 142) (i := 31) (pc := 131) dX12_goes_131 rfl pf_12_264 rfl s0_142 rfl rfl nf_142_31 rfl ?_
              refine fr_goto (tg := 217) (pc := 134) dX12_goes_134 rfl ?_
              exact fr_vret (pc := 217) dX12_goes_217 rfl hq
          · refine fr_tableO (tg := 176) (pc := 15) dX12_goes_15 (by omega) rfl ?_
            exact hq sc d hd (9, 0) pm_t9 (9, 0) pm_t9
theorem k12_goes_176_r {h : Nat} {l1 : Int} {M : pm_M} {K : pm_M → Prop} (hh : 102 ≤ h) (hq : (if gI M 142 29 = 0 then (if gI M 142 31 = 0 then k12_comesOut l1 M (fun r4 M3 => (if r4 = 0 then K M3 else ((0 ≤ l1 ∧ l1 < 800) ∧ k12_goesRow (h - 1) (gI M3 150 l1) M3 (fun M7 => (if gI M7 142 29 = 0 then (if gI M7 142 31 = 0 then (if gI M7 142 28 = 300 then K (upI M7 142 29 2) else ((0 ≤ gI M7 142 28 ∧ gI M7 142 28 < 300) ∧ ((0 ≤ l1 ∧ l1 < 60) ∧ k12_goes_176 h l1 (upI (upI (upI M7 158 (gI M7 142 28) l1) 142 28 (w32 ((gI M7 142 28) + 1))) 157 l1 (w32 ((gI M7 157 l1) + 1))) K))) else K M7) else K M7))))) else K M) else K M)) : k12_goes_176 h l1 M K := by
  intro sc d hd z2 hz2 z3 hz3
  refine fr_aload_n (pc := 176) dX12_goes_176 rfl rfl ?_
  refine fr_inVI (a := 142) (as := []) (rest := []) (ls' := [(2, 142)]) (c1 := 0) (c2 := 0) (pc := 177) dX12_goes_177 pl_12_277 rfl ⟨Nat.le_of_ble_eq_true rfl, Nat.le_of_ble_eq_true rfl⟩ rfl rfl rfl s0_142 (Nat.le_of_ble_eq_true rfl) (by omega) rfl rfl (pm_zc _) ?_ (fun y M' h => h)
  refine fr_aload_n (pc := 0) dX12_isOn_0 rfl rfl ?_
  refine fr_getf (a := 142) (i := 29) (v := gI M 142 29) (t := 0) (pc := 1) dX12_isOn_1 rfl pf_12_258 rfl s0_142 rfl rfl ?_
  refine fr_ifc_ne (tg := 18) (pc := 4) dX12_isOn_4 rfl hq (fun hc1 hq => ?_) (fun hc1 hq => ?_)
  · refine fr_aload_n (pc := 7) dX12_isOn_7 rfl rfl ?_
    refine fr_getf (a := 142) (i := 31) (v := gI M 142 31) (t := 0) (pc := 8) dX12_isOn_8 rfl pf_12_264 rfl s0_142 rfl rfl ?_
    refine fr_ifc_ne (tg := 18) (pc := 11) dX12_isOn_11 rfl hq (fun hc2 hq => ?_) (fun hc2 hq => ?_)
    · refine fr_iconst (pc := 14) dX12_isOn_14 (by decide) ?_
      refine fr_goto (tg := 19) (pc := 15) dX12_isOn_15 rfl ?_
      refine fr_iret (pc := 19) dX12_isOn_19 (Or.inr (Or.inl ⟨rfl, Or.inr rfl⟩)) ?_
      refine fr_ifcF (tg := 217) (pc := 180) dX12_goes_180 rfl rfl ?_
      refine fr_aload_n (pc := 183) dX12_goes_183 rfl rfl ?_
      refine fr_iload_n (pc := 184) dX12_goes_184 rfl rfl ?_
      refine fr_inVI (a := 142) (as := [(0, l1)]) (rest := []) (ls' := [(2, 142), (0, l1), (9, 0), (9, 0)]) (c1 := 0) (c2 := 0) (pc := 185) dX12_goes_185 pl_12_290 rfl ⟨Nat.le_of_ble_eq_true rfl, Nat.le_of_ble_eq_true rfl⟩ rfl rfl rfl s0_142 (Nat.le_of_ble_eq_true rfl) (by omega) rfl rfl (pm_zc _) (hq sc _ (by omega)) (fun r4 M3 hq => ?_)
      refine fr_ifc_eq (tg := 217) (pc := 188) dX12_goes_188 rfl hq (fun hc5 hq => ?_) (fun hc5 hq => ?_)
      · exact fr_vret (pc := 217) dX12_goes_217 rfl hq
      · refine fr_aload_n (pc := 191) dX12_goes_191 rfl rfl ?_
        refine fr_aload_n (pc := 192) dX12_goes_192 rfl rfl ?_
        refine fr_getr (a := 142) (pc := 193) dX12_goes_193 rfl pf_12_32 s0_142 rfl rf_142_15 ?_
        refine fr_iload_n (pc := 196) dX12_goes_196 rfl rfl ?_
        obtain ⟨hb6, hq⟩ := hq
        refine fr_iaload (a := 150) (v := gI M3 150 l1) (pc := 197) dX12_goes_197 rfl s0_150 hb6 rfl ?_
        refine fr_inVV (a := 142) (as := [(0, gI M3 150 l1)]) (rest := []) (ls' := [(2, 142), (0, gI M3 150 l1), (9, 0)]) (c1 := 0) (c2 := 0) (pc := 198) dX12_goes_198 pl_12_293 rfl ⟨Nat.le_of_ble_eq_true rfl, Nat.le_of_ble_eq_true rfl⟩ rfl rfl rfl s0_142 (Nat.le_of_ble_eq_true rfl) (by omega) rfl rfl (pm_zc _) (hq sc _ (by omega)) (fun M7 hq => ?_)
        refine fr_aload_n (pc := 201) dX12_goes_201 rfl rfl ?_
        refine fr_inVI (a := 142) (as := []) (rest := []) (ls' := [(2, 142)]) (c1 := 0) (c2 := 0) (pc := 202) dX12_goes_202 pl_12_277 rfl ⟨Nat.le_of_ble_eq_true rfl, Nat.le_of_ble_eq_true rfl⟩ rfl rfl rfl s0_142 (Nat.le_of_ble_eq_true rfl) (by omega) rfl rfl (pm_zc _) ?_ (fun y M' h => h)
        refine fr_aload_n (pc := 0) dX12_isOn_0 rfl rfl ?_
        refine fr_getf (a := 142) (i := 29) (v := gI M7 142 29) (t := 0) (pc := 1) dX12_isOn_1 rfl pf_12_258 rfl s0_142 rfl rfl ?_
        refine fr_ifc_ne (tg := 18) (pc := 4) dX12_isOn_4 rfl hq (fun hc9 hq => ?_) (fun hc9 hq => ?_)
        · refine fr_aload_n (pc := 7) dX12_isOn_7 rfl rfl ?_
          refine fr_getf (a := 142) (i := 31) (v := gI M7 142 31) (t := 0) (pc := 8) dX12_isOn_8 rfl pf_12_264 rfl s0_142 rfl rfl ?_
          refine fr_ifc_ne (tg := 18) (pc := 11) dX12_isOn_11 rfl hq (fun hc10 hq => ?_) (fun hc10 hq => ?_)
          · refine fr_iconst (pc := 14) dX12_isOn_14 (by decide) ?_
            refine fr_goto (tg := 19) (pc := 15) dX12_isOn_15 rfl ?_
            refine fr_iret (pc := 19) dX12_isOn_19 (Or.inr (Or.inl ⟨rfl, Or.inr rfl⟩)) ?_
            refine fr_ifcF (tg := 216) (pc := 205) dX12_goes_205 rfl rfl ?_
            refine fr_aload_n (pc := 208) dX12_goes_208 rfl rfl ?_
            refine fr_iload_n (pc := 209) dX12_goes_209 rfl rfl ?_
            refine fr_inVI (a := 142) (as := [(0, l1)]) (rest := []) (ls' := [(2, 142), (0, l1)]) (c1 := 0) (c2 := 0) (pc := 210) dX12_goes_210 pl_12_284 rfl ⟨Nat.le_of_ble_eq_true rfl, Nat.le_of_ble_eq_true rfl⟩ rfl rfl rfl s0_142 (Nat.le_of_ble_eq_true rfl) (by omega) rfl rfl (pm_zc _) ?_ (fun y M' h => h)
            refine fr_aload_n (pc := 0) dX12_step_0 rfl rfl ?_
            refine fr_getf (a := 142) (i := 28) (v := gI M7 142 28) (t := 0) (pc := 1) dX12_step_1 rfl pf_12_268 rfl s0_142 rfl rfl ?_
            refine fr_sipush (pc := 4) dX12_step_4 (by decide) ?_
            refine fr_icm_ne (tg := 17) (pc := 7) dX12_step_7 rfl hq (fun hc11 hq => ?_) (fun hc11 hq => ?_)
            · refine fr_aload_n (pc := 10) dX12_step_10 rfl rfl ?_
              refine fr_iconst (pc := 11) dX12_step_11 (by decide) ?_
              refine fr_put (a := 142) (i := 29) (pc := 12) dX12_step_12 rfl pf_12_258 rfl s0_142 rfl rfl nf_142_29 rfl ?_
              refine fr_iconst (pc := 15) dX12_step_15 (by decide) ?_
              refine fr_iret (pc := 16) dX12_step_16 (Or.inr (Or.inl ⟨rfl, Or.inl rfl⟩)) ?_
              refine fr_ifcF (tg := 176) (pc := 213) dX12_goes_213 rfl rfl ?_
              exact fr_vret (pc := 216) dX12_goes_216 rfl hq
            · refine fr_aload_n (pc := 17) dX12_step_17 rfl rfl ?_
              refine fr_getr (a := 142) (pc := 18) dX12_step_18 rfl pf_12_56 s0_142 rfl rf_142_33 ?_
              refine fr_aload_n (pc := 21) dX12_step_21 rfl rfl ?_
              refine fr_getf (a := 142) (i := 28) (v := gI M7 142 28) (t := 0) (pc := 22) dX12_step_22 rfl pf_12_268 rfl s0_142 rfl rfl ?_
              refine fr_iload_n (pc := 25) dX12_step_25 rfl rfl ?_
              obtain ⟨hb12, hq⟩ := hq
              refine fr_iastore (a := 158) (pc := 26) dX12_step_26 rfl s0_158 hb12 nr_158 ?_
              refine fr_aload_n (pc := 27) dX12_step_27 rfl rfl ?_
              refine fr_dup (pc := 28) dX12_step_28 pm_t2 ?_
              refine fr_getf (a := 142) (i := 28) (v := gI M7 142 28) (t := 0) (pc := 29) dX12_step_29 rfl pf_12_268 rfl s0_142 rfl (gI_ne _ _ _ _ (by decide)) ?_
              refine fr_iconst (pc := 32) dX12_step_32 (by decide) ?_
              refine fr_iadd (z := w32 ((gI M7 142 28) + 1)) (pc := 33) dX12_step_33 rfl ?_
              refine fr_put (a := 142) (i := 28) (pc := 34) dX12_step_34 rfl pf_12_268 rfl s0_142 rfl rfl nf_142_28 rfl ?_
              refine fr_aload_n (pc := 37) dX12_step_37 rfl rfl ?_
              refine fr_getr (a := 142) (pc := 38) dX12_step_38 rfl pf_12_53 s0_142 rfl rf_142_32 ?_
              refine fr_iload_n (pc := 41) dX12_step_41 rfl rfl ?_
              refine fr_dup2 (pc := 42) dX12_step_42 pm_t0 pm_t2 ?_
              obtain ⟨hb13, hq⟩ := hq
              refine fr_iaload (a := 157) (v := gI M7 157 l1) (pc := 43) dX12_step_43 rfl s0_157 hb13 ((gI_ne _ _ _ _ (by decide)).trans (gI_ne _ _ _ _ (by decide))) ?_
              refine fr_iconst (pc := 44) dX12_step_44 (by decide) ?_
              refine fr_iadd (z := w32 ((gI M7 157 l1) + 1)) (pc := 45) dX12_step_45 rfl ?_
              refine fr_iastore (a := 157) (pc := 46) dX12_step_46 rfl s0_157 hb13 nr_157 ?_
              refine fr_iconst (pc := 47) dX12_step_47 (by decide) ?_
              refine fr_iret (pc := 48) dX12_step_48 (Or.inr (Or.inl ⟨rfl, Or.inr rfl⟩)) ?_
              refine fr_ifcT (tg := 176) (pc := 213) dX12_goes_213 rfl rfl ?_
              exact hq sc d hd z2 hz2 z3 hz3
          · refine fr_iconst (pc := 18) dX12_isOn_18 (by decide) ?_
            refine fr_iret (pc := 19) dX12_isOn_19 (Or.inr (Or.inl ⟨rfl, Or.inl rfl⟩)) ?_
            refine fr_ifcT (tg := 216) (pc := 205) dX12_goes_205 rfl rfl ?_
            exact fr_vret (pc := 216) dX12_goes_216 rfl hq
        · refine fr_iconst (pc := 18) dX12_isOn_18 (by decide) ?_
          refine fr_iret (pc := 19) dX12_isOn_19 (Or.inr (Or.inl ⟨rfl, Or.inl rfl⟩)) ?_
          refine fr_ifcT (tg := 216) (pc := 205) dX12_goes_205 rfl rfl ?_
          exact fr_vret (pc := 216) dX12_goes_216 rfl hq
    · refine fr_iconst (pc := 18) dX12_isOn_18 (by decide) ?_
      refine fr_iret (pc := 19) dX12_isOn_19 (Or.inr (Or.inl ⟨rfl, Or.inl rfl⟩)) ?_
      refine fr_ifcT (tg := 217) (pc := 180) dX12_goes_180 rfl rfl ?_
      exact fr_vret (pc := 217) dX12_goes_217 rfl hq
  · refine fr_iconst (pc := 18) dX12_isOn_18 (by decide) ?_
    refine fr_iret (pc := 19) dX12_isOn_19 (Or.inr (Or.inl ⟨rfl, Or.inl rfl⟩)) ?_
    refine fr_ifcT (tg := 217) (pc := 180) dX12_goes_180 rfl rfl ?_
    exact fr_vret (pc := 217) dX12_goes_217 rfl hq
theorem k12_worth_r {h : Nat} {a1 : Int} {M : pm_M} {K : Int → pm_M → Prop} (hh : 20 ≤ h) (hq : ((0 ≤ a1 ∧ a1 < 800) ∧ (if gI M 145 a1 = 4 then K (gI M 146 a1) M else (if gI M 145 a1 = 5 then ((0 ≤ gI M 146 a1 ∧ gI M 146 a1 < 9) ∧ K (gI M 156 (gI M 146 a1)) M) else (if gI M 145 a1 = 6 then ((0 ≤ a1 ∧ a1 < 60) ∧ (if pm_iand (gI M 153 a1) 1 ≤ 0 then k12_worth (h - 1) (gI M 148 a1) M (fun r9 M8 => K (w32 (-r9)) M8) else k12_worth (h - 1) (gI M 148 a1) M (fun r11 M10 => K r11 M10))) else ((0 ≤ a1 ∧ a1 < 60) ∧ (if pm_iand (gI M 153 a1) 4 ≤ 0 then k12_worth (h - 1) (gI M 148 a1) M (fun r15 M14 => (if gI M14 142 29 = 0 then k12_worth (h - 1) (gI M14 149 a1) M14 (fun r18 M17 => (if gI M17 142 29 = 0 then k12_joined (gI M17 146 a1) r15 r18 M17 (fun r21 M20 => K r21 M20) else K 0 M17)) else K 0 M14)) else k12_worth (h - 1) (gI M 149 a1) M (fun r23 M22 => (if gI M22 142 29 = 0 then k12_worth (h - 1) (gI M22 148 a1) M22 (fun r26 M25 => (if gI M25 142 29 = 0 then k12_joined (gI M25 146 a1) r23 r26 M25 (fun r29 M28 => K r29 M28) else K 0 M25)) else K 0 M22))))))))) : k12_worth h a1 M K := by
  intro sc d hd
  refine fr_aload_n (pc := 0) dX12_worth_0 rfl rfl ?_
  refine fr_getr (a := 142) (pc := 1) dX12_worth_1 rfl pf_12_17 s0_142 rfl rf_142_10 ?_
  refine fr_iload_n (pc := 4) dX12_worth_4 rfl rfl ?_
  obtain ⟨hb1, hq⟩ := hq
  refine fr_iaload (a := 145) (v := gI M 145 a1) (pc := 5) dX12_worth_5 rfl s0_145 hb1 rfl ?_
  refine pm_ite hq (fun hc2 hq => ?_) (fun hc2 hq => ?_)
  · refine fr_tabV (tg := 32) (off := 26) (v := 4) (pc := 6) dX12_worth_6 hc2 (by decide) rfl rfl ?_
    refine fr_aload_n (pc := 32) dX12_worth_32 rfl rfl ?_
    refine fr_getr (a := 142) (pc := 33) dX12_worth_33 rfl pf_12_20 s0_142 rfl rf_142_11 ?_
    refine fr_iload_n (pc := 36) dX12_worth_36 rfl rfl ?_
    refine fr_iaload (a := 146) (v := gI M 146 a1) (pc := 37) dX12_worth_37 rfl s0_146 hb1 rfl ?_
    exact fr_iret (pc := 38) dX12_worth_38 (Or.inl rfl) hq
  · refine pm_ite hq (fun hc3 hq => ?_) (fun hc3 hq => ?_)
    · refine fr_tabV (tg := 39) (off := 33) (v := 5) (pc := 6) dX12_worth_6 hc3 (by decide) rfl rfl ?_
      refine fr_aload_n (pc := 39) dX12_worth_39 rfl rfl ?_
      refine fr_getr (a := 142) (pc := 40) dX12_worth_40 rfl pf_12_50 s0_142 rfl rf_142_27 ?_
      refine fr_aload_n (pc := 43) dX12_worth_43 rfl rfl ?_
      refine fr_getr (a := 142) (pc := 44) dX12_worth_44 rfl pf_12_20 s0_142 rfl rf_142_11 ?_
      refine fr_iload_n (pc := 47) dX12_worth_47 rfl rfl ?_
      refine fr_iaload (a := 146) (v := gI M 146 a1) (pc := 48) dX12_worth_48 rfl s0_146 hb1 rfl ?_
      obtain ⟨hb4, hq⟩ := hq
      refine fr_iaload (a := 156) (v := gI M 156 (gI M 146 a1)) (pc := 49) dX12_worth_49 rfl s0_156 hb4 rfl ?_
      exact fr_iret (pc := 50) dX12_worth_50 (Or.inl rfl) hq
    · refine pm_ite hq (fun hc5 hq => ?_) (fun hc5 hq => ?_)
      · refine fr_tabV (tg := 51) (off := 45) (v := 6) (pc := 6) dX12_worth_6 hc5 (by decide) rfl rfl ?_
        refine fr_aload_n (pc := 51) dX12_worth_51 rfl rfl ?_
        refine fr_iload_n (pc := 52) dX12_worth_52 rfl rfl ?_
        refine fr_inVI (a := 142) (as := [(0, a1)]) (rest := []) (ls' := [(2, 142), (0, a1)]) (c1 := 0) (c2 := 0) (pc := 53) dX12_worth_53 pl_12_252 rfl ⟨Nat.le_of_ble_eq_true rfl, Nat.le_of_ble_eq_true rfl⟩ rfl rfl rfl s0_142 (Nat.le_of_ble_eq_true rfl) (by omega) rfl rfl (pm_zc _) ?_ (fun y M' h => h)
        refine fr_aload_n (pc := 0) dX12_isOut_0 rfl rfl ?_
        refine fr_getr (a := 142) (pc := 1) dX12_isOut_1 rfl pf_12_41 s0_142 rfl rf_142_23 ?_
        refine fr_iload_n (pc := 4) dX12_isOut_4 rfl rfl ?_
        obtain ⟨hb6, hq⟩ := hq
        refine fr_iaload (a := 153) (v := gI M 153 a1) (pc := 5) dX12_isOut_5 rfl s0_153 hb6 rfl ?_
        refine fr_iconst (pc := 6) dX12_isOut_6 (by decide) ?_
        refine fr_iand (z := pm_iand (gI M 153 a1) 1) (pc := 7) dX12_isOut_7 rfl ?_
        refine fr_ifc_le (tg := 15) (pc := 8) dX12_isOut_8 rfl hq (fun hc7 hq => ?_) (fun hc7 hq => ?_)
        · refine fr_iconst (pc := 15) dX12_isOut_15 (by decide) ?_
          refine fr_iret (pc := 16) dX12_isOut_16 (Or.inr (Or.inl ⟨rfl, Or.inl rfl⟩)) ?_
          refine fr_ifcT (tg := 72) (pc := 56) dX12_worth_56 rfl rfl ?_
          refine fr_aload_n (pc := 72) dX12_worth_72 rfl rfl ?_
          refine fr_aload_n (pc := 73) dX12_worth_73 rfl rfl ?_
          refine fr_getr (a := 142) (pc := 74) dX12_worth_74 rfl pf_12_26 s0_142 rfl rf_142_13 ?_
          refine fr_iload_n (pc := 77) dX12_worth_77 rfl rfl ?_
          refine fr_iaload (a := 148) (v := gI M 148 a1) (pc := 78) dX12_worth_78 rfl s0_148 ⟨hb6.1, by omega⟩ rfl ?_
          refine fr_inVI (a := 142) (as := [(0, gI M 148 a1)]) (rest := []) (ls' := [(2, 142), (0, gI M 148 a1), (9, 0), (9, 0), (9, 0)]) (c1 := 0) (c2 := 0) (pc := 79) dX12_worth_79 pl_12_255 rfl ⟨Nat.le_of_ble_eq_true rfl, Nat.le_of_ble_eq_true rfl⟩ rfl rfl rfl s0_142 (Nat.le_of_ble_eq_true rfl) (by omega) rfl rfl (pm_zc _) (hq sc _ (by omega)) (fun r9 M8 hq => ?_)
          refine fr_ineg (z := w32 (-r9)) (pc := 82) dX12_worth_82 rfl ?_
          exact fr_iret (pc := 83) dX12_worth_83 (Or.inl rfl) hq
        · refine fr_iconst (pc := 11) dX12_isOut_11 (by decide) ?_
          refine fr_goto (tg := 16) (pc := 12) dX12_isOut_12 rfl ?_
          refine fr_iret (pc := 16) dX12_isOut_16 (Or.inr (Or.inl ⟨rfl, Or.inr rfl⟩)) ?_
          refine fr_ifcF (tg := 72) (pc := 56) dX12_worth_56 rfl rfl ?_
          refine fr_aload_n (pc := 59) dX12_worth_59 rfl rfl ?_
          refine fr_aload_n (pc := 60) dX12_worth_60 rfl rfl ?_
          refine fr_getr (a := 142) (pc := 61) dX12_worth_61 rfl pf_12_26 s0_142 rfl rf_142_13 ?_
          refine fr_iload_n (pc := 64) dX12_worth_64 rfl rfl ?_
          refine fr_iaload (a := 148) (v := gI M 148 a1) (pc := 65) dX12_worth_65 rfl s0_148 ⟨hb6.1, by omega⟩ rfl ?_
          refine fr_inVI (a := 142) (as := [(0, gI M 148 a1)]) (rest := []) (ls' := [(2, 142), (0, gI M 148 a1), (9, 0), (9, 0), (9, 0)]) (c1 := 0) (c2 := 0) (pc := 66) dX12_worth_66 pl_12_255 rfl ⟨Nat.le_of_ble_eq_true rfl, Nat.le_of_ble_eq_true rfl⟩ rfl rfl rfl s0_142 (Nat.le_of_ble_eq_true rfl) (by omega) rfl rfl (pm_zc _) (hq sc _ (by omega)) (fun r11 M10 hq => ?_)
          refine fr_goto (tg := 83) (pc := 69) dX12_worth_69 rfl ?_
          exact fr_iret (pc := 83) dX12_worth_83 (Or.inl rfl) hq
      · refine fr_tableO (tg := 84) (pc := 6) dX12_worth_6 (by omega) rfl ?_
        refine fr_aload_n (pc := 84) dX12_worth_84 rfl rfl ?_
        refine fr_getr (a := 142) (pc := 85) dX12_worth_85 rfl pf_12_41 s0_142 rfl rf_142_23 ?_
        refine fr_iload_n (pc := 88) dX12_worth_88 rfl rfl ?_
        obtain ⟨hb12, hq⟩ := hq
        refine fr_iaload (a := 153) (v := gI M 153 a1) (pc := 89) dX12_worth_89 rfl s0_153 hb12 rfl ?_
        refine fr_iconst (pc := 90) dX12_worth_90 (by decide) ?_
        refine fr_iand (z := pm_iand (gI M 153 a1) 4) (pc := 91) dX12_worth_91 rfl ?_
        refine fr_ifc_le (tg := 99) (pc := 92) dX12_worth_92 rfl hq (fun hc13 hq => ?_) (fun hc13 hq => ?_)
        · refine fr_iconst (pc := 99) dX12_worth_99 (by decide) ?_
          refine fr_istore_n (ls2 := [(2, 142), (0, a1), (0, 0), (9, 0), (9, 0)]) (pc := 100) dX12_worth_100 rfl (Nat.le_of_ble_eq_true rfl) rfl ?_
          refine fr_aload_n (pc := 101) dX12_worth_101 rfl rfl ?_
          refine fr_iload_n (pc := 102) dX12_worth_102 rfl rfl ?_
          refine fr_ifcT (tg := 115) (pc := 103) dX12_worth_103 rfl rfl ?_
          refine fr_aload_n (pc := 115) dX12_worth_115 rfl rfl ?_
          refine fr_getr (a := 142) (pc := 116) dX12_worth_116 rfl pf_12_26 s0_142 rfl rf_142_13 ?_
          refine fr_iload_n (pc := 119) dX12_worth_119 rfl rfl ?_
          refine fr_iaload (a := 148) (v := gI M 148 a1) (pc := 120) dX12_worth_120 rfl s0_148 ⟨hb12.1, by omega⟩ rfl ?_
          refine fr_inVI (a := 142) (as := [(0, gI M 148 a1)]) (rest := []) (ls' := [(2, 142), (0, gI M 148 a1), (9, 0), (9, 0), (9, 0)]) (c1 := 0) (c2 := 0) (pc := 121) dX12_worth_121 pl_12_255 rfl ⟨Nat.le_of_ble_eq_true rfl, Nat.le_of_ble_eq_true rfl⟩ rfl rfl rfl s0_142 (Nat.le_of_ble_eq_true rfl) (by omega) rfl rfl (pm_zc _) (hq sc _ (by omega)) (fun r15 M14 hq => ?_)
          refine fr_istore_n (ls2 := [(2, 142), (0, a1), (0, 0), (0, r15), (9, 0)]) (pc := 124) dX12_worth_124 rfl (Nat.le_of_ble_eq_true rfl) rfl ?_
          refine fr_aload_n (pc := 125) dX12_worth_125 rfl rfl ?_
          refine fr_getf (a := 142) (i := 29) (v := gI M14 142 29) (t := 0) (pc := 126) dX12_worth_126 rfl pf_12_258 rfl s0_142 rfl rfl ?_
          refine fr_ifc_ne (tg := 158) (pc := 129) dX12_worth_129 rfl hq (fun hc16 hq => ?_) (fun hc16 hq => ?_)
          · refine fr_aload_n (pc := 132) dX12_worth_132 rfl rfl ?_
            refine fr_iload_n (pc := 133) dX12_worth_133 rfl rfl ?_
            refine fr_ifcT (tg := 146) (pc := 134) dX12_worth_134 rfl rfl ?_
            refine fr_aload_n (pc := 146) dX12_worth_146 rfl rfl ?_
            refine fr_getr (a := 142) (pc := 147) dX12_worth_147 rfl pf_12_29 s0_142 rfl rf_142_14 ?_
            refine fr_iload_n (pc := 150) dX12_worth_150 rfl rfl ?_
            refine fr_iaload (a := 149) (v := gI M14 149 a1) (pc := 151) dX12_worth_151 rfl s0_149 ⟨hb12.1, by omega⟩ rfl ?_
            refine fr_inVI (a := 142) (as := [(0, gI M14 149 a1)]) (rest := []) (ls' := [(2, 142), (0, gI M14 149 a1), (9, 0), (9, 0), (9, 0)]) (c1 := 0) (c2 := 0) (pc := 152) dX12_worth_152 pl_12_255 rfl ⟨Nat.le_of_ble_eq_true rfl, Nat.le_of_ble_eq_true rfl⟩ rfl rfl rfl s0_142 (Nat.le_of_ble_eq_true rfl) (by omega) rfl rfl (pm_zc _) (hq sc _ (by omega)) (fun r18 M17 hq => ?_)
            refine fr_goto (tg := 159) (pc := 155) dX12_worth_155 rfl ?_
            refine fr_istore (ls2 := [(2, 142), (0, a1), (0, 0), (0, r15), (0, r18)]) (pc := 159) dX12_worth_159 rfl (Nat.le_of_ble_eq_true rfl) rfl ?_
            refine fr_aload_n (pc := 161) dX12_worth_161 rfl rfl ?_
            refine fr_getf (a := 142) (i := 29) (v := gI M17 142 29) (t := 0) (pc := 162) dX12_worth_162 rfl pf_12_258 rfl s0_142 rfl rfl ?_
            refine fr_ifc_ne (tg := 184) (pc := 165) dX12_worth_165 rfl hq (fun hc19 hq => ?_) (fun hc19 hq => ?_)
            · refine fr_aload_n (pc := 168) dX12_worth_168 rfl rfl ?_
              refine fr_aload_n (pc := 169) dX12_worth_169 rfl rfl ?_
              refine fr_getr (a := 142) (pc := 170) dX12_worth_170 rfl pf_12_20 s0_142 rfl rf_142_11 ?_
              refine fr_iload_n (pc := 173) dX12_worth_173 rfl rfl ?_
              refine fr_iaload (a := 146) (v := gI M17 146 a1) (pc := 174) dX12_worth_174 rfl s0_146 ⟨hb12.1, by omega⟩ rfl ?_
              refine fr_iload_n (pc := 175) dX12_worth_175 rfl rfl ?_
              refine fr_iload (pc := 176) dX12_worth_176 rfl rfl ?_
              refine fr_inVI (a := 142) (as := [(0, gI M17 146 a1), (0, r15), (0, r18)]) (rest := []) (ls' := [(2, 142), (0, gI M17 146 a1), (0, r15), (0, r18)]) (c1 := 0) (c2 := 0) (pc := 178) dX12_worth_178 pl_12_261 rfl ⟨Nat.le_of_ble_eq_true rfl, Nat.le_of_ble_eq_true rfl⟩ rfl rfl rfl s0_142 (Nat.le_of_ble_eq_true rfl) (by omega) rfl rfl (pm_zc _) (hq sc _ (by omega)) (fun r21 M20 hq => ?_)
              refine fr_goto (tg := 185) (pc := 181) dX12_worth_181 rfl ?_
              exact fr_iret (pc := 185) dX12_worth_185 (Or.inl rfl) hq
            · refine fr_iconst (pc := 184) dX12_worth_184 (by decide) ?_
              exact fr_iret (pc := 185) dX12_worth_185 (Or.inl rfl) hq
          · refine fr_iconst (pc := 158) dX12_worth_158 (by decide) ?_
            refine fr_istore (ls2 := [(2, 142), (0, a1), (0, 0), (0, r15), (0, 0)]) (pc := 159) dX12_worth_159 rfl (Nat.le_of_ble_eq_true rfl) rfl ?_
            refine fr_aload_n (pc := 161) dX12_worth_161 rfl rfl ?_
            refine fr_getf (a := 142) (i := 29) (v := gI M14 142 29) (t := 0) (pc := 162) dX12_worth_162 rfl pf_12_258 rfl s0_142 rfl rfl ?_
            refine fr_ifcT (tg := 184) (pc := 165) dX12_worth_165 (decide_eq_true hc16) rfl ?_
            refine fr_iconst (pc := 184) dX12_worth_184 (by decide) ?_
            exact fr_iret (pc := 185) dX12_worth_185 (Or.inl rfl) hq
        · refine fr_iconst (pc := 95) dX12_worth_95 (by decide) ?_
          refine fr_goto (tg := 100) (pc := 96) dX12_worth_96 rfl ?_
          refine fr_istore_n (ls2 := [(2, 142), (0, a1), (0, 1), (9, 0), (9, 0)]) (pc := 100) dX12_worth_100 rfl (Nat.le_of_ble_eq_true rfl) rfl ?_
          refine fr_aload_n (pc := 101) dX12_worth_101 rfl rfl ?_
          refine fr_iload_n (pc := 102) dX12_worth_102 rfl rfl ?_
          refine fr_ifcF (tg := 115) (pc := 103) dX12_worth_103 rfl rfl ?_
          refine fr_aload_n (pc := 106) dX12_worth_106 rfl rfl ?_
          refine fr_getr (a := 142) (pc := 107) dX12_worth_107 rfl pf_12_29 s0_142 rfl rf_142_14 ?_
          refine fr_iload_n (pc := 110) dX12_worth_110 rfl rfl ?_
          refine fr_iaload (a := 149) (v := gI M 149 a1) (pc := 111) dX12_worth_111 rfl s0_149 ⟨hb12.1, by omega⟩ rfl ?_
          refine fr_goto (tg := 121) (pc := 112) dX12_worth_112 rfl ?_
          refine fr_inVI (a := 142) (as := [(0, gI M 149 a1)]) (rest := []) (ls' := [(2, 142), (0, gI M 149 a1), (9, 0), (9, 0), (9, 0)]) (c1 := 0) (c2 := 0) (pc := 121) dX12_worth_121 pl_12_255 rfl ⟨Nat.le_of_ble_eq_true rfl, Nat.le_of_ble_eq_true rfl⟩ rfl rfl rfl s0_142 (Nat.le_of_ble_eq_true rfl) (by omega) rfl rfl (pm_zc _) (hq sc _ (by omega)) (fun r23 M22 hq => ?_)
          refine fr_istore_n (ls2 := [(2, 142), (0, a1), (0, 1), (0, r23), (9, 0)]) (pc := 124) dX12_worth_124 rfl (Nat.le_of_ble_eq_true rfl) rfl ?_
          refine fr_aload_n (pc := 125) dX12_worth_125 rfl rfl ?_
          refine fr_getf (a := 142) (i := 29) (v := gI M22 142 29) (t := 0) (pc := 126) dX12_worth_126 rfl pf_12_258 rfl s0_142 rfl rfl ?_
          refine fr_ifc_ne (tg := 158) (pc := 129) dX12_worth_129 rfl hq (fun hc24 hq => ?_) (fun hc24 hq => ?_)
          · refine fr_aload_n (pc := 132) dX12_worth_132 rfl rfl ?_
            refine fr_iload_n (pc := 133) dX12_worth_133 rfl rfl ?_
            refine fr_ifcF (tg := 146) (pc := 134) dX12_worth_134 rfl rfl ?_
            refine fr_aload_n (pc := 137) dX12_worth_137 rfl rfl ?_
            refine fr_getr (a := 142) (pc := 138) dX12_worth_138 rfl pf_12_26 s0_142 rfl rf_142_13 ?_
            refine fr_iload_n (pc := 141) dX12_worth_141 rfl rfl ?_
            refine fr_iaload (a := 148) (v := gI M22 148 a1) (pc := 142) dX12_worth_142 rfl s0_148 ⟨hb12.1, by omega⟩ rfl ?_
            refine fr_goto (tg := 152) (pc := 143) dX12_worth_143 rfl ?_
            refine fr_inVI (a := 142) (as := [(0, gI M22 148 a1)]) (rest := []) (ls' := [(2, 142), (0, gI M22 148 a1), (9, 0), (9, 0), (9, 0)]) (c1 := 0) (c2 := 0) (pc := 152) dX12_worth_152 pl_12_255 rfl ⟨Nat.le_of_ble_eq_true rfl, Nat.le_of_ble_eq_true rfl⟩ rfl rfl rfl s0_142 (Nat.le_of_ble_eq_true rfl) (by omega) rfl rfl (pm_zc _) (hq sc _ (by omega)) (fun r26 M25 hq => ?_)
            refine fr_goto (tg := 159) (pc := 155) dX12_worth_155 rfl ?_
            refine fr_istore (ls2 := [(2, 142), (0, a1), (0, 1), (0, r23), (0, r26)]) (pc := 159) dX12_worth_159 rfl (Nat.le_of_ble_eq_true rfl) rfl ?_
            refine fr_aload_n (pc := 161) dX12_worth_161 rfl rfl ?_
            refine fr_getf (a := 142) (i := 29) (v := gI M25 142 29) (t := 0) (pc := 162) dX12_worth_162 rfl pf_12_258 rfl s0_142 rfl rfl ?_
            refine fr_ifc_ne (tg := 184) (pc := 165) dX12_worth_165 rfl hq (fun hc27 hq => ?_) (fun hc27 hq => ?_)
            · refine fr_aload_n (pc := 168) dX12_worth_168 rfl rfl ?_
              refine fr_aload_n (pc := 169) dX12_worth_169 rfl rfl ?_
              refine fr_getr (a := 142) (pc := 170) dX12_worth_170 rfl pf_12_20 s0_142 rfl rf_142_11 ?_
              refine fr_iload_n (pc := 173) dX12_worth_173 rfl rfl ?_
              refine fr_iaload (a := 146) (v := gI M25 146 a1) (pc := 174) dX12_worth_174 rfl s0_146 ⟨hb12.1, by omega⟩ rfl ?_
              refine fr_iload_n (pc := 175) dX12_worth_175 rfl rfl ?_
              refine fr_iload (pc := 176) dX12_worth_176 rfl rfl ?_
              refine fr_inVI (a := 142) (as := [(0, gI M25 146 a1), (0, r23), (0, r26)]) (rest := []) (ls' := [(2, 142), (0, gI M25 146 a1), (0, r23), (0, r26)]) (c1 := 0) (c2 := 0) (pc := 178) dX12_worth_178 pl_12_261 rfl ⟨Nat.le_of_ble_eq_true rfl, Nat.le_of_ble_eq_true rfl⟩ rfl rfl rfl s0_142 (Nat.le_of_ble_eq_true rfl) (by omega) rfl rfl (pm_zc _) (hq sc _ (by omega)) (fun r29 M28 hq => ?_)
              refine fr_goto (tg := 185) (pc := 181) dX12_worth_181 rfl ?_
              exact fr_iret (pc := 185) dX12_worth_185 (Or.inl rfl) hq
            · refine fr_iconst (pc := 184) dX12_worth_184 (by decide) ?_
              exact fr_iret (pc := 185) dX12_worth_185 (Or.inl rfl) hq
          · refine fr_iconst (pc := 158) dX12_worth_158 (by decide) ?_
            refine fr_istore (ls2 := [(2, 142), (0, a1), (0, 1), (0, r23), (0, 0)]) (pc := 159) dX12_worth_159 rfl (Nat.le_of_ble_eq_true rfl) rfl ?_
            refine fr_aload_n (pc := 161) dX12_worth_161 rfl rfl ?_
            refine fr_getf (a := 142) (i := 29) (v := gI M22 142 29) (t := 0) (pc := 162) dX12_worth_162 rfl pf_12_258 rfl s0_142 rfl rfl ?_
            refine fr_ifcT (tg := 184) (pc := 165) dX12_worth_165 (decide_eq_true hc24) rfl ?_
            refine fr_iconst (pc := 184) dX12_worth_184 (by decide) ?_
            exact fr_iret (pc := 185) dX12_worth_185 (Or.inl rfl) hq
theorem k12_joined_r {a1 a2 a3 : Int} {M : pm_M} {K : Int → pm_M → Prop} (hq : (if a1 = 3 then (if a3 = 0 then K 0 (upI M 142 29 1) else k12_joined_21 a1 a2 a3 M K) else (if a1 = 4 then (if a3 = 0 then K 0 (upI M 142 29 1) else k12_joined_21 a1 a2 a3 M K) else k12_joined_21 a1 a2 a3 M K))) : k12_joined a1 a2 a3 M K := by
  intro sc d hd
  refine fr_iload_n (pc := 0) dX12_joined_0 rfl rfl ?_
  refine fr_iconst (pc := 1) dX12_joined_1 (by decide) ?_
  refine fr_icm_eq (tg := 10) (pc := 2) dX12_joined_2 rfl hq (fun hc1 hq => ?_) (fun hc1 hq => ?_)
  · refine fr_iload_n (pc := 10) dX12_joined_10 rfl rfl ?_
    refine fr_ifc_ne (tg := 21) (pc := 11) dX12_joined_11 rfl hq (fun hc2 hq => ?_) (fun hc2 hq => ?_)
    · refine fr_aload_n (pc := 14) dX12_joined_14 rfl rfl ?_
      refine fr_iconst (pc := 15) dX12_joined_15 (by decide) ?_
      refine fr_put (a := 142) (i := 29) (pc := 16) dX12_joined_16 rfl pf_12_258 rfl s0_142 rfl rfl nf_142_29 rfl ?_
      refine fr_iconst (pc := 19) dX12_joined_19 (by decide) ?_
      exact fr_iret (pc := 20) dX12_joined_20 (Or.inl rfl) hq
    · exact hq sc d hd (2, 142) pm_t2
  · refine fr_iload_n (pc := 5) dX12_joined_5 rfl rfl ?_
    refine fr_iconst (pc := 6) dX12_joined_6 (by decide) ?_
    refine fr_icm_ne (tg := 21) (pc := 7) dX12_joined_7 rfl hq (fun hc3 hq => ?_) (fun hc3 hq => ?_)
    · refine fr_iload_n (pc := 10) dX12_joined_10 rfl rfl ?_
      refine fr_ifc_ne (tg := 21) (pc := 11) dX12_joined_11 rfl hq (fun hc4 hq => ?_) (fun hc4 hq => ?_)
      · refine fr_aload_n (pc := 14) dX12_joined_14 rfl rfl ?_
        refine fr_iconst (pc := 15) dX12_joined_15 (by decide) ?_
        refine fr_put (a := 142) (i := 29) (pc := 16) dX12_joined_16 rfl pf_12_258 rfl s0_142 rfl rfl nf_142_29 rfl ?_
        refine fr_iconst (pc := 19) dX12_joined_19 (by decide) ?_
        exact fr_iret (pc := 20) dX12_joined_20 (Or.inl rfl) hq
      · exact hq sc d hd (2, 142) pm_t2
    · exact hq sc d hd (2, 142) pm_t2
theorem k12_joined_21_r {l1 l2 l3 : Int} {M : pm_M} {K : Int → pm_M → Prop} (hq : (if l1 = 0 then K (w32 (l2 + l3)) M else (if l1 = 1 then K (w32 (l2 - l3)) M else (if l1 = 2 then K (w32 (l2 * l3)) M else (if l1 = 3 then (¬ l3 = 0 ∧ K (w32 (l2.tdiv l3)) M) else (if l1 = 4 then (¬ l3 = 0 ∧ K (l2.tmod l3) M) else (if l1 = 5 then (if l2 < l3 then K 1 M else K 0 M) else (if l1 = 6 then (if l2 ≤ l3 then K 1 M else K 0 M) else (if l1 = 7 then (if l2 = l3 then K 1 M else K 0 M) else (if l1 = 8 then (if l2 = l3 then K 0 M else K 1 M) else (if l1 = 9 then (if l2 ≤ l3 then K 0 M else K 1 M) else (if l2 < l3 then K 0 M else K 1 M)))))))))))) : k12_joined_21 l1 l2 l3 M K := by
  intro sc d hd z0 hz0
  refine fr_iload_n (pc := 21) dX12_joined_21 rfl rfl ?_
  refine pm_ite hq (fun hc1 hq => ?_) (fun hc1 hq => ?_)
  · refine fr_tabV (tg := 76) (off := 54) (v := 0) (pc := 22) dX12_joined_22 hc1 (by decide) rfl rfl ?_
    refine fr_iload_n (pc := 76) dX12_joined_76 rfl rfl ?_
    refine fr_iload_n (pc := 77) dX12_joined_77 rfl rfl ?_
    refine fr_iadd (z := w32 (l2 + l3)) (pc := 78) dX12_joined_78 rfl ?_
    exact fr_iret (pc := 79) dX12_joined_79 (Or.inl rfl) hq
  · refine pm_ite hq (fun hc2 hq => ?_) (fun hc2 hq => ?_)
    · refine fr_tabV (tg := 80) (off := 58) (v := 1) (pc := 22) dX12_joined_22 hc2 (by decide) rfl rfl ?_
      refine fr_iload_n (pc := 80) dX12_joined_80 rfl rfl ?_
      refine fr_iload_n (pc := 81) dX12_joined_81 rfl rfl ?_
      refine fr_isub (z := w32 (l2 - l3)) (pc := 82) dX12_joined_82 rfl ?_
      exact fr_iret (pc := 83) dX12_joined_83 (Or.inl rfl) hq
    · refine pm_ite hq (fun hc3 hq => ?_) (fun hc3 hq => ?_)
      · refine fr_tabV (tg := 84) (off := 62) (v := 2) (pc := 22) dX12_joined_22 hc3 (by decide) rfl rfl ?_
        refine fr_iload_n (pc := 84) dX12_joined_84 rfl rfl ?_
        refine fr_iload_n (pc := 85) dX12_joined_85 rfl rfl ?_
        refine fr_imul (z := w32 (l2 * l3)) (pc := 86) dX12_joined_86 rfl ?_
        exact fr_iret (pc := 87) dX12_joined_87 (Or.inl rfl) hq
      · refine pm_ite hq (fun hc4 hq => ?_) (fun hc4 hq => ?_)
        · refine fr_tabV (tg := 88) (off := 66) (v := 3) (pc := 22) dX12_joined_22 hc4 (by decide) rfl rfl ?_
          refine fr_iload_n (pc := 88) dX12_joined_88 rfl rfl ?_
          refine fr_iload_n (pc := 89) dX12_joined_89 rfl rfl ?_
          obtain ⟨hb5, hq⟩ := hq
          refine fr_idiv (pc := 90) dX12_joined_90 hb5 ?_
          exact fr_iret (pc := 91) dX12_joined_91 (Or.inl rfl) hq
        · refine pm_ite hq (fun hc6 hq => ?_) (fun hc6 hq => ?_)
          · refine fr_tabV (tg := 92) (off := 70) (v := 4) (pc := 22) dX12_joined_22 hc6 (by decide) rfl rfl ?_
            refine fr_iload_n (pc := 92) dX12_joined_92 rfl rfl ?_
            refine fr_iload_n (pc := 93) dX12_joined_93 rfl rfl ?_
            obtain ⟨hb7, hq⟩ := hq
            refine fr_irem (pc := 94) dX12_joined_94 hb7 ?_
            exact fr_iret (pc := 95) dX12_joined_95 (Or.inl rfl) hq
          · refine pm_ite hq (fun hc8 hq => ?_) (fun hc8 hq => ?_)
            · refine fr_tabV (tg := 96) (off := 74) (v := 5) (pc := 22) dX12_joined_22 hc8 (by decide) rfl rfl ?_
              refine fr_iload_n (pc := 96) dX12_joined_96 rfl rfl ?_
              refine fr_iload_n (pc := 97) dX12_joined_97 rfl rfl ?_
              refine fr_icm_ge (tg := 105) (pc := 98) dX12_joined_98 rfl hq (fun hc9 hq => ?_) (fun hc9 hq => ?_)
              · refine fr_iconst (pc := 101) dX12_joined_101 (by decide) ?_
                refine fr_goto (tg := 106) (pc := 102) dX12_joined_102 rfl ?_
                exact fr_iret (pc := 106) dX12_joined_106 (Or.inl rfl) hq
              · refine fr_iconst (pc := 105) dX12_joined_105 (by decide) ?_
                exact fr_iret (pc := 106) dX12_joined_106 (Or.inl rfl) hq
            · refine pm_ite hq (fun hc10 hq => ?_) (fun hc10 hq => ?_)
              · refine fr_tabV (tg := 107) (off := 85) (v := 6) (pc := 22) dX12_joined_22 hc10 (by decide) rfl rfl ?_
                refine fr_iload_n (pc := 107) dX12_joined_107 rfl rfl ?_
                refine fr_iload_n (pc := 108) dX12_joined_108 rfl rfl ?_
                refine fr_icm_gt (tg := 116) (pc := 109) dX12_joined_109 rfl hq (fun hc11 hq => ?_) (fun hc11 hq => ?_)
                · refine fr_iconst (pc := 112) dX12_joined_112 (by decide) ?_
                  refine fr_goto (tg := 117) (pc := 113) dX12_joined_113 rfl ?_
                  exact fr_iret (pc := 117) dX12_joined_117 (Or.inl rfl) hq
                · refine fr_iconst (pc := 116) dX12_joined_116 (by decide) ?_
                  exact fr_iret (pc := 117) dX12_joined_117 (Or.inl rfl) hq
              · refine pm_ite hq (fun hc12 hq => ?_) (fun hc12 hq => ?_)
                · refine fr_tabV (tg := 118) (off := 96) (v := 7) (pc := 22) dX12_joined_22 hc12 (by decide) rfl rfl ?_
                  refine fr_iload_n (pc := 118) dX12_joined_118 rfl rfl ?_
                  refine fr_iload_n (pc := 119) dX12_joined_119 rfl rfl ?_
                  refine fr_icm_ne (tg := 127) (pc := 120) dX12_joined_120 rfl hq (fun hc13 hq => ?_) (fun hc13 hq => ?_)
                  · refine fr_iconst (pc := 123) dX12_joined_123 (by decide) ?_
                    refine fr_goto (tg := 128) (pc := 124) dX12_joined_124 rfl ?_
                    exact fr_iret (pc := 128) dX12_joined_128 (Or.inl rfl) hq
                  · refine fr_iconst (pc := 127) dX12_joined_127 (by decide) ?_
                    exact fr_iret (pc := 128) dX12_joined_128 (Or.inl rfl) hq
                · refine pm_ite hq (fun hc14 hq => ?_) (fun hc14 hq => ?_)
                  · refine fr_tabV (tg := 129) (off := 107) (v := 8) (pc := 22) dX12_joined_22 hc14 (by decide) rfl rfl ?_
                    refine fr_iload_n (pc := 129) dX12_joined_129 rfl rfl ?_
                    refine fr_iload_n (pc := 130) dX12_joined_130 rfl rfl ?_
                    refine fr_icm_eq (tg := 138) (pc := 131) dX12_joined_131 rfl hq (fun hc15 hq => ?_) (fun hc15 hq => ?_)
                    · refine fr_iconst (pc := 138) dX12_joined_138 (by decide) ?_
                      exact fr_iret (pc := 139) dX12_joined_139 (Or.inl rfl) hq
                    · refine fr_iconst (pc := 134) dX12_joined_134 (by decide) ?_
                      refine fr_goto (tg := 139) (pc := 135) dX12_joined_135 rfl ?_
                      exact fr_iret (pc := 139) dX12_joined_139 (Or.inl rfl) hq
                  · refine pm_ite hq (fun hc16 hq => ?_) (fun hc16 hq => ?_)
                    · refine fr_tabV (tg := 140) (off := 118) (v := 9) (pc := 22) dX12_joined_22 hc16 (by decide) rfl rfl ?_
                      refine fr_iload_n (pc := 140) dX12_joined_140 rfl rfl ?_
                      refine fr_iload_n (pc := 141) dX12_joined_141 rfl rfl ?_
                      refine fr_icm_le (tg := 149) (pc := 142) dX12_joined_142 rfl hq (fun hc17 hq => ?_) (fun hc17 hq => ?_)
                      · refine fr_iconst (pc := 149) dX12_joined_149 (by decide) ?_
                        exact fr_iret (pc := 150) dX12_joined_150 (Or.inl rfl) hq
                      · refine fr_iconst (pc := 145) dX12_joined_145 (by decide) ?_
                        refine fr_goto (tg := 150) (pc := 146) dX12_joined_146 rfl ?_
                        exact fr_iret (pc := 150) dX12_joined_150 (Or.inl rfl) hq
                    · refine fr_tableO (tg := 151) (pc := 22) dX12_joined_22 (by omega) rfl ?_
                      refine fr_iload_n (pc := 151) dX12_joined_151 rfl rfl ?_
                      refine fr_iload_n (pc := 152) dX12_joined_152 rfl rfl ?_
                      refine fr_icm_lt (tg := 160) (pc := 153) dX12_joined_153 rfl hq (fun hc18 hq => ?_) (fun hc18 hq => ?_)
                      · refine fr_iconst (pc := 160) dX12_joined_160 (by decide) ?_
                        exact fr_iret (pc := 161) dX12_joined_161 (Or.inl rfl) hq
                      · refine fr_iconst (pc := 156) dX12_joined_156 (by decide) ?_
                        refine fr_goto (tg := 161) (pc := 157) dX12_joined_157 rfl ?_
                        exact fr_iret (pc := 161) dX12_joined_161 (Or.inl rfl) hq
theorem k12_comesOut_r {a1 : Int} {M : pm_M} {K : Int → pm_M → Prop} (hq : ((0 ≤ a1 ∧ a1 < 800) ∧ k12_worth 100 (gI M 148 a1) M (fun r3 M2 => (if gI M2 142 29 = 0 then (if r3 = 0 then ((0 ≤ a1 ∧ a1 < 60) ∧ (if pm_iand (gI M2 153 a1) 2 ≤ 0 then (if a1 = gI M2 142 36 then (if gI M2 142 34 = gI M2 142 35 then (if gI M2 142 37 = 0 then K 1 (upI M2 142 34 (w32 ((gI M2 142 34) + 1))) else K 0 (upI M2 142 34 (w32 ((gI M2 142 34) + 1)))) else ((gI M2 142 37 = 0 ∨ gI M2 142 37 = 1) ∧ K (gI M2 142 37) (upI M2 142 34 (w32 ((gI M2 142 34) + 1))))) else (if gI M2 142 34 = gI M2 142 35 then K 1 (upI M2 142 34 (w32 ((gI M2 142 34) + 1))) else K 0 (upI M2 142 34 (w32 ((gI M2 142 34) + 1))))) else (if a1 = gI M2 142 36 then (if gI M2 142 34 = gI M2 142 35 then (if gI M2 142 37 = 0 then K 1 (upI M2 142 34 (w32 ((gI M2 142 34) + 1))) else K 0 (upI M2 142 34 (w32 ((gI M2 142 34) + 1)))) else ((gI M2 142 37 = 0 ∨ gI M2 142 37 = 1) ∧ K (gI M2 142 37) (upI M2 142 34 (w32 ((gI M2 142 34) + 1))))) else (if gI M2 142 34 = gI M2 142 35 then K 0 (upI M2 142 34 (w32 ((gI M2 142 34) + 1))) else K 1 (upI M2 142 34 (w32 ((gI M2 142 34) + 1))))))) else ((0 ≤ a1 ∧ a1 < 60) ∧ (if pm_iand (gI M2 153 a1) 2 ≤ 0 then (if a1 = gI M2 142 36 then (if gI M2 142 34 = gI M2 142 35 then (if gI M2 142 37 = 0 then K 1 (upI M2 142 34 (w32 ((gI M2 142 34) + 1))) else K 0 (upI M2 142 34 (w32 ((gI M2 142 34) + 1)))) else ((gI M2 142 37 = 0 ∨ gI M2 142 37 = 1) ∧ K (gI M2 142 37) (upI M2 142 34 (w32 ((gI M2 142 34) + 1))))) else (if gI M2 142 34 = gI M2 142 35 then K 0 (upI M2 142 34 (w32 ((gI M2 142 34) + 1))) else K 1 (upI M2 142 34 (w32 ((gI M2 142 34) + 1))))) else (if a1 = gI M2 142 36 then (if gI M2 142 34 = gI M2 142 35 then (if gI M2 142 37 = 0 then K 1 (upI M2 142 34 (w32 ((gI M2 142 34) + 1))) else K 0 (upI M2 142 34 (w32 ((gI M2 142 34) + 1)))) else ((gI M2 142 37 = 0 ∨ gI M2 142 37 = 1) ∧ K (gI M2 142 37) (upI M2 142 34 (w32 ((gI M2 142 34) + 1))))) else (if gI M2 142 34 = gI M2 142 35 then K 1 (upI M2 142 34 (w32 ((gI M2 142 34) + 1))) else K 0 (upI M2 142 34 (w32 ((gI M2 142 34) + 1)))))))) else K 0 M2)))) : k12_comesOut a1 M K := by
  intro sc d hd
  refine fr_aload_n (pc := 0) dX12_comesOut_0 rfl rfl ?_
  refine fr_aload_n (pc := 1) dX12_comesOut_1 rfl rfl ?_
  refine fr_getr (a := 142) (pc := 2) dX12_comesOut_2 rfl pf_12_26 s0_142 rfl rf_142_13 ?_
  refine fr_iload_n (pc := 5) dX12_comesOut_5 rfl rfl ?_
  obtain ⟨hb1, hq⟩ := hq
  refine fr_iaload (a := 148) (v := gI M 148 a1) (pc := 6) dX12_comesOut_6 rfl s0_148 hb1 rfl ?_
  refine fr_inVI (a := 142) (as := [(0, gI M 148 a1)]) (rest := []) (ls' := [(2, 142), (0, gI M 148 a1), (9, 0), (9, 0), (9, 0)]) (c1 := 0) (c2 := 0) (pc := 7) dX12_comesOut_7 pl_12_255 rfl ⟨Nat.le_of_ble_eq_true rfl, Nat.le_of_ble_eq_true rfl⟩ rfl rfl rfl s0_142 (Nat.le_of_ble_eq_true rfl) (by omega) rfl rfl (pm_zc _) (hq sc _ (by omega)) (fun r3 M2 hq => ?_)
  refine fr_istore_n (ls2 := [(2, 142), (0, a1), (0, r3), (9, 0)]) (pc := 10) dX12_comesOut_10 rfl (Nat.le_of_ble_eq_true rfl) rfl ?_
  refine fr_aload_n (pc := 11) dX12_comesOut_11 rfl rfl ?_
  refine fr_getf (a := 142) (i := 29) (v := gI M2 142 29) (t := 0) (pc := 12) dX12_comesOut_12 rfl pf_12_258 rfl s0_142 rfl rfl ?_
  refine fr_ifc_eq (tg := 20) (pc := 15) dX12_comesOut_15 rfl hq (fun hc4 hq => ?_) (fun hc4 hq => ?_)
  · refine fr_iload_n (pc := 20) dX12_comesOut_20 rfl rfl ?_
    refine fr_ifc_eq (tg := 28) (pc := 21) dX12_comesOut_21 rfl hq (fun hc5 hq => ?_) (fun hc5 hq => ?_)
    · refine fr_iconst (pc := 28) dX12_comesOut_28 (by decide) ?_
      refine fr_aload_n (pc := 29) dX12_comesOut_29 rfl rfl ?_
      refine fr_getr (a := 142) (pc := 30) dX12_comesOut_30 rfl pf_12_41 s0_142 rfl rf_142_23 ?_
      refine fr_iload_n (pc := 33) dX12_comesOut_33 rfl rfl ?_
      obtain ⟨hb6, hq⟩ := hq
      refine fr_iaload (a := 153) (v := gI M2 153 a1) (pc := 34) dX12_comesOut_34 rfl s0_153 hb6 rfl ?_
      refine fr_iconst (pc := 35) dX12_comesOut_35 (by decide) ?_
      refine fr_iand (z := pm_iand (gI M2 153 a1) 2) (pc := 36) dX12_comesOut_36 rfl ?_
      refine fr_ifc_le (tg := 44) (pc := 37) dX12_comesOut_37 rfl hq (fun hc7 hq => ?_) (fun hc7 hq => ?_)
      · refine fr_iconst (pc := 44) dX12_comesOut_44 (by decide) ?_
        refine fr_icmT (tg := 52) (pc := 45) dX12_comesOut_45 rfl rfl ?_
        refine fr_iconst (pc := 52) dX12_comesOut_52 (by decide) ?_
        refine fr_istore_n (ls2 := [(2, 142), (0, a1), (0, r3), (0, 0)]) (pc := 53) dX12_comesOut_53 rfl (Nat.le_of_ble_eq_true rfl) rfl ?_
        refine fr_iload_n (pc := 54) dX12_comesOut_54 rfl rfl ?_
        refine fr_aload_n (pc := 55) dX12_comesOut_55 rfl rfl ?_
        refine fr_getf (a := 142) (i := 36) (v := gI M2 142 36) (t := 0) (pc := 56) dX12_comesOut_56 rfl pf_12_63 rfl s0_142 rfl rfl ?_
        refine fr_icm_ne (tg := 69) (pc := 59) dX12_comesOut_59 rfl hq (fun hc8 hq => ?_) (fun hc8 hq => ?_)
        · refine fr_aload_n (pc := 62) dX12_comesOut_62 rfl rfl ?_
          refine fr_getf (a := 142) (i := 37) (v := gI M2 142 37) (t := 0) (pc := 63) dX12_comesOut_63 rfl pf_12_271 rfl s0_142 rfl rfl ?_
          refine fr_goto (tg := 70) (pc := 66) dX12_comesOut_66 rfl ?_
          refine fr_istore_n (ls2 := [(2, 142), (0, a1), (0, r3), (0, gI M2 142 37)]) (pc := 70) dX12_comesOut_70 rfl (Nat.le_of_ble_eq_true rfl) rfl ?_
          refine fr_aload_n (pc := 71) dX12_comesOut_71 rfl rfl ?_
          refine fr_getf (a := 142) (i := 34) (v := gI M2 142 34) (t := 0) (pc := 72) dX12_comesOut_72 rfl pf_12_274 rfl s0_142 rfl rfl ?_
          refine fr_aload_n (pc := 75) dX12_comesOut_75 rfl rfl ?_
          refine fr_getf (a := 142) (i := 35) (v := gI M2 142 35) (t := 0) (pc := 76) dX12_comesOut_76 rfl pf_12_59 rfl s0_142 rfl rfl ?_
          refine fr_icm_ne (tg := 94) (pc := 79) dX12_comesOut_79 rfl hq (fun hc9 hq => ?_) (fun hc9 hq => ?_)
          · refine fr_iload_n (pc := 82) dX12_comesOut_82 rfl rfl ?_
            refine fr_ifc_ne (tg := 90) (pc := 83) dX12_comesOut_83 rfl hq (fun hc10 hq => ?_) (fun hc10 hq => ?_)
            · refine fr_iconst (pc := 86) dX12_comesOut_86 (by decide) ?_
              refine fr_goto (tg := 95) (pc := 87) dX12_comesOut_87 rfl ?_
              refine fr_istore_n (ls2 := [(2, 142), (0, a1), (0, r3), (0, 1)]) (pc := 95) dX12_comesOut_95 rfl (Nat.le_of_ble_eq_true rfl) rfl ?_
              refine fr_aload_n (pc := 96) dX12_comesOut_96 rfl rfl ?_
              refine fr_dup (pc := 97) dX12_comesOut_97 pm_t2 ?_
              refine fr_getf (a := 142) (i := 34) (v := gI M2 142 34) (t := 0) (pc := 98) dX12_comesOut_98 rfl pf_12_274 rfl s0_142 rfl rfl ?_
              refine fr_iconst (pc := 101) dX12_comesOut_101 (by decide) ?_
              refine fr_iadd (z := w32 ((gI M2 142 34) + 1)) (pc := 102) dX12_comesOut_102 rfl ?_
              refine fr_put (a := 142) (i := 34) (pc := 103) dX12_comesOut_103 rfl pf_12_274 rfl s0_142 rfl rfl nf_142_34 rfl ?_
              refine fr_iload_n (pc := 106) dX12_comesOut_106 rfl rfl ?_
              exact fr_iret (pc := 107) dX12_comesOut_107 (Or.inr (Or.inl ⟨rfl, Or.inr rfl⟩)) hq
            · refine fr_iconst (pc := 90) dX12_comesOut_90 (by decide) ?_
              refine fr_goto (tg := 95) (pc := 91) dX12_comesOut_91 rfl ?_
              refine fr_istore_n (ls2 := [(2, 142), (0, a1), (0, r3), (0, 0)]) (pc := 95) dX12_comesOut_95 rfl (Nat.le_of_ble_eq_true rfl) rfl ?_
              refine fr_aload_n (pc := 96) dX12_comesOut_96 rfl rfl ?_
              refine fr_dup (pc := 97) dX12_comesOut_97 pm_t2 ?_
              refine fr_getf (a := 142) (i := 34) (v := gI M2 142 34) (t := 0) (pc := 98) dX12_comesOut_98 rfl pf_12_274 rfl s0_142 rfl rfl ?_
              refine fr_iconst (pc := 101) dX12_comesOut_101 (by decide) ?_
              refine fr_iadd (z := w32 ((gI M2 142 34) + 1)) (pc := 102) dX12_comesOut_102 rfl ?_
              refine fr_put (a := 142) (i := 34) (pc := 103) dX12_comesOut_103 rfl pf_12_274 rfl s0_142 rfl rfl nf_142_34 rfl ?_
              refine fr_iload_n (pc := 106) dX12_comesOut_106 rfl rfl ?_
              exact fr_iret (pc := 107) dX12_comesOut_107 (Or.inr (Or.inl ⟨rfl, Or.inl rfl⟩)) hq
          · refine fr_iload_n (pc := 94) dX12_comesOut_94 rfl rfl ?_
            refine fr_istore_n (ls2 := [(2, 142), (0, a1), (0, r3), (0, gI M2 142 37)]) (pc := 95) dX12_comesOut_95 rfl (Nat.le_of_ble_eq_true rfl) rfl ?_
            refine fr_aload_n (pc := 96) dX12_comesOut_96 rfl rfl ?_
            refine fr_dup (pc := 97) dX12_comesOut_97 pm_t2 ?_
            refine fr_getf (a := 142) (i := 34) (v := gI M2 142 34) (t := 0) (pc := 98) dX12_comesOut_98 rfl pf_12_274 rfl s0_142 rfl rfl ?_
            refine fr_iconst (pc := 101) dX12_comesOut_101 (by decide) ?_
            refine fr_iadd (z := w32 ((gI M2 142 34) + 1)) (pc := 102) dX12_comesOut_102 rfl ?_
            refine fr_put (a := 142) (i := 34) (pc := 103) dX12_comesOut_103 rfl pf_12_274 rfl s0_142 rfl rfl nf_142_34 rfl ?_
            refine fr_iload_n (pc := 106) dX12_comesOut_106 rfl rfl ?_
            obtain ⟨hz11, hq⟩ := hq
            exact fr_iret (pc := 107) dX12_comesOut_107 (Or.inr (Or.inl ⟨rfl, hz11⟩)) hq
        · refine fr_iload_n (pc := 69) dX12_comesOut_69 rfl rfl ?_
          refine fr_istore_n (ls2 := [(2, 142), (0, a1), (0, r3), (0, 0)]) (pc := 70) dX12_comesOut_70 rfl (Nat.le_of_ble_eq_true rfl) rfl ?_
          refine fr_aload_n (pc := 71) dX12_comesOut_71 rfl rfl ?_
          refine fr_getf (a := 142) (i := 34) (v := gI M2 142 34) (t := 0) (pc := 72) dX12_comesOut_72 rfl pf_12_274 rfl s0_142 rfl rfl ?_
          refine fr_aload_n (pc := 75) dX12_comesOut_75 rfl rfl ?_
          refine fr_getf (a := 142) (i := 35) (v := gI M2 142 35) (t := 0) (pc := 76) dX12_comesOut_76 rfl pf_12_59 rfl s0_142 rfl rfl ?_
          refine fr_icm_ne (tg := 94) (pc := 79) dX12_comesOut_79 rfl hq (fun hc12 hq => ?_) (fun hc12 hq => ?_)
          · refine fr_iload_n (pc := 82) dX12_comesOut_82 rfl rfl ?_
            refine fr_ifcF (tg := 90) (pc := 83) dX12_comesOut_83 rfl rfl ?_
            refine fr_iconst (pc := 86) dX12_comesOut_86 (by decide) ?_
            refine fr_goto (tg := 95) (pc := 87) dX12_comesOut_87 rfl ?_
            refine fr_istore_n (ls2 := [(2, 142), (0, a1), (0, r3), (0, 1)]) (pc := 95) dX12_comesOut_95 rfl (Nat.le_of_ble_eq_true rfl) rfl ?_
            refine fr_aload_n (pc := 96) dX12_comesOut_96 rfl rfl ?_
            refine fr_dup (pc := 97) dX12_comesOut_97 pm_t2 ?_
            refine fr_getf (a := 142) (i := 34) (v := gI M2 142 34) (t := 0) (pc := 98) dX12_comesOut_98 rfl pf_12_274 rfl s0_142 rfl rfl ?_
            refine fr_iconst (pc := 101) dX12_comesOut_101 (by decide) ?_
            refine fr_iadd (z := w32 ((gI M2 142 34) + 1)) (pc := 102) dX12_comesOut_102 rfl ?_
            refine fr_put (a := 142) (i := 34) (pc := 103) dX12_comesOut_103 rfl pf_12_274 rfl s0_142 rfl rfl nf_142_34 rfl ?_
            refine fr_iload_n (pc := 106) dX12_comesOut_106 rfl rfl ?_
            exact fr_iret (pc := 107) dX12_comesOut_107 (Or.inr (Or.inl ⟨rfl, Or.inr rfl⟩)) hq
          · refine fr_iload_n (pc := 94) dX12_comesOut_94 rfl rfl ?_
            refine fr_istore_n (ls2 := [(2, 142), (0, a1), (0, r3), (0, 0)]) (pc := 95) dX12_comesOut_95 rfl (Nat.le_of_ble_eq_true rfl) rfl ?_
            refine fr_aload_n (pc := 96) dX12_comesOut_96 rfl rfl ?_
            refine fr_dup (pc := 97) dX12_comesOut_97 pm_t2 ?_
            refine fr_getf (a := 142) (i := 34) (v := gI M2 142 34) (t := 0) (pc := 98) dX12_comesOut_98 rfl pf_12_274 rfl s0_142 rfl rfl ?_
            refine fr_iconst (pc := 101) dX12_comesOut_101 (by decide) ?_
            refine fr_iadd (z := w32 ((gI M2 142 34) + 1)) (pc := 102) dX12_comesOut_102 rfl ?_
            refine fr_put (a := 142) (i := 34) (pc := 103) dX12_comesOut_103 rfl pf_12_274 rfl s0_142 rfl rfl nf_142_34 rfl ?_
            refine fr_iload_n (pc := 106) dX12_comesOut_106 rfl rfl ?_
            exact fr_iret (pc := 107) dX12_comesOut_107 (Or.inr (Or.inl ⟨rfl, Or.inl rfl⟩)) hq
      · refine fr_iconst (pc := 40) dX12_comesOut_40 (by decide) ?_
        refine fr_goto (tg := 45) (pc := 41) dX12_comesOut_41 rfl ?_
        refine fr_icmF (tg := 52) (pc := 45) dX12_comesOut_45 rfl rfl ?_
        refine fr_iconst (pc := 48) dX12_comesOut_48 (by decide) ?_
        refine fr_goto (tg := 53) (pc := 49) dX12_comesOut_49 rfl ?_
        refine fr_istore_n (ls2 := [(2, 142), (0, a1), (0, r3), (0, 1)]) (pc := 53) dX12_comesOut_53 rfl (Nat.le_of_ble_eq_true rfl) rfl ?_
        refine fr_iload_n (pc := 54) dX12_comesOut_54 rfl rfl ?_
        refine fr_aload_n (pc := 55) dX12_comesOut_55 rfl rfl ?_
        refine fr_getf (a := 142) (i := 36) (v := gI M2 142 36) (t := 0) (pc := 56) dX12_comesOut_56 rfl pf_12_63 rfl s0_142 rfl rfl ?_
        refine fr_icm_ne (tg := 69) (pc := 59) dX12_comesOut_59 rfl hq (fun hc13 hq => ?_) (fun hc13 hq => ?_)
        · refine fr_aload_n (pc := 62) dX12_comesOut_62 rfl rfl ?_
          refine fr_getf (a := 142) (i := 37) (v := gI M2 142 37) (t := 0) (pc := 63) dX12_comesOut_63 rfl pf_12_271 rfl s0_142 rfl rfl ?_
          refine fr_goto (tg := 70) (pc := 66) dX12_comesOut_66 rfl ?_
          refine fr_istore_n (ls2 := [(2, 142), (0, a1), (0, r3), (0, gI M2 142 37)]) (pc := 70) dX12_comesOut_70 rfl (Nat.le_of_ble_eq_true rfl) rfl ?_
          refine fr_aload_n (pc := 71) dX12_comesOut_71 rfl rfl ?_
          refine fr_getf (a := 142) (i := 34) (v := gI M2 142 34) (t := 0) (pc := 72) dX12_comesOut_72 rfl pf_12_274 rfl s0_142 rfl rfl ?_
          refine fr_aload_n (pc := 75) dX12_comesOut_75 rfl rfl ?_
          refine fr_getf (a := 142) (i := 35) (v := gI M2 142 35) (t := 0) (pc := 76) dX12_comesOut_76 rfl pf_12_59 rfl s0_142 rfl rfl ?_
          refine fr_icm_ne (tg := 94) (pc := 79) dX12_comesOut_79 rfl hq (fun hc14 hq => ?_) (fun hc14 hq => ?_)
          · refine fr_iload_n (pc := 82) dX12_comesOut_82 rfl rfl ?_
            refine fr_ifc_ne (tg := 90) (pc := 83) dX12_comesOut_83 rfl hq (fun hc15 hq => ?_) (fun hc15 hq => ?_)
            · refine fr_iconst (pc := 86) dX12_comesOut_86 (by decide) ?_
              refine fr_goto (tg := 95) (pc := 87) dX12_comesOut_87 rfl ?_
              refine fr_istore_n (ls2 := [(2, 142), (0, a1), (0, r3), (0, 1)]) (pc := 95) dX12_comesOut_95 rfl (Nat.le_of_ble_eq_true rfl) rfl ?_
              refine fr_aload_n (pc := 96) dX12_comesOut_96 rfl rfl ?_
              refine fr_dup (pc := 97) dX12_comesOut_97 pm_t2 ?_
              refine fr_getf (a := 142) (i := 34) (v := gI M2 142 34) (t := 0) (pc := 98) dX12_comesOut_98 rfl pf_12_274 rfl s0_142 rfl rfl ?_
              refine fr_iconst (pc := 101) dX12_comesOut_101 (by decide) ?_
              refine fr_iadd (z := w32 ((gI M2 142 34) + 1)) (pc := 102) dX12_comesOut_102 rfl ?_
              refine fr_put (a := 142) (i := 34) (pc := 103) dX12_comesOut_103 rfl pf_12_274 rfl s0_142 rfl rfl nf_142_34 rfl ?_
              refine fr_iload_n (pc := 106) dX12_comesOut_106 rfl rfl ?_
              exact fr_iret (pc := 107) dX12_comesOut_107 (Or.inr (Or.inl ⟨rfl, Or.inr rfl⟩)) hq
            · refine fr_iconst (pc := 90) dX12_comesOut_90 (by decide) ?_
              refine fr_goto (tg := 95) (pc := 91) dX12_comesOut_91 rfl ?_
              refine fr_istore_n (ls2 := [(2, 142), (0, a1), (0, r3), (0, 0)]) (pc := 95) dX12_comesOut_95 rfl (Nat.le_of_ble_eq_true rfl) rfl ?_
              refine fr_aload_n (pc := 96) dX12_comesOut_96 rfl rfl ?_
              refine fr_dup (pc := 97) dX12_comesOut_97 pm_t2 ?_
              refine fr_getf (a := 142) (i := 34) (v := gI M2 142 34) (t := 0) (pc := 98) dX12_comesOut_98 rfl pf_12_274 rfl s0_142 rfl rfl ?_
              refine fr_iconst (pc := 101) dX12_comesOut_101 (by decide) ?_
              refine fr_iadd (z := w32 ((gI M2 142 34) + 1)) (pc := 102) dX12_comesOut_102 rfl ?_
              refine fr_put (a := 142) (i := 34) (pc := 103) dX12_comesOut_103 rfl pf_12_274 rfl s0_142 rfl rfl nf_142_34 rfl ?_
              refine fr_iload_n (pc := 106) dX12_comesOut_106 rfl rfl ?_
              exact fr_iret (pc := 107) dX12_comesOut_107 (Or.inr (Or.inl ⟨rfl, Or.inl rfl⟩)) hq
          · refine fr_iload_n (pc := 94) dX12_comesOut_94 rfl rfl ?_
            refine fr_istore_n (ls2 := [(2, 142), (0, a1), (0, r3), (0, gI M2 142 37)]) (pc := 95) dX12_comesOut_95 rfl (Nat.le_of_ble_eq_true rfl) rfl ?_
            refine fr_aload_n (pc := 96) dX12_comesOut_96 rfl rfl ?_
            refine fr_dup (pc := 97) dX12_comesOut_97 pm_t2 ?_
            refine fr_getf (a := 142) (i := 34) (v := gI M2 142 34) (t := 0) (pc := 98) dX12_comesOut_98 rfl pf_12_274 rfl s0_142 rfl rfl ?_
            refine fr_iconst (pc := 101) dX12_comesOut_101 (by decide) ?_
            refine fr_iadd (z := w32 ((gI M2 142 34) + 1)) (pc := 102) dX12_comesOut_102 rfl ?_
            refine fr_put (a := 142) (i := 34) (pc := 103) dX12_comesOut_103 rfl pf_12_274 rfl s0_142 rfl rfl nf_142_34 rfl ?_
            refine fr_iload_n (pc := 106) dX12_comesOut_106 rfl rfl ?_
            obtain ⟨hz16, hq⟩ := hq
            exact fr_iret (pc := 107) dX12_comesOut_107 (Or.inr (Or.inl ⟨rfl, hz16⟩)) hq
        · refine fr_iload_n (pc := 69) dX12_comesOut_69 rfl rfl ?_
          refine fr_istore_n (ls2 := [(2, 142), (0, a1), (0, r3), (0, 1)]) (pc := 70) dX12_comesOut_70 rfl (Nat.le_of_ble_eq_true rfl) rfl ?_
          refine fr_aload_n (pc := 71) dX12_comesOut_71 rfl rfl ?_
          refine fr_getf (a := 142) (i := 34) (v := gI M2 142 34) (t := 0) (pc := 72) dX12_comesOut_72 rfl pf_12_274 rfl s0_142 rfl rfl ?_
          refine fr_aload_n (pc := 75) dX12_comesOut_75 rfl rfl ?_
          refine fr_getf (a := 142) (i := 35) (v := gI M2 142 35) (t := 0) (pc := 76) dX12_comesOut_76 rfl pf_12_59 rfl s0_142 rfl rfl ?_
          refine fr_icm_ne (tg := 94) (pc := 79) dX12_comesOut_79 rfl hq (fun hc17 hq => ?_) (fun hc17 hq => ?_)
          · refine fr_iload_n (pc := 82) dX12_comesOut_82 rfl rfl ?_
            refine fr_ifcT (tg := 90) (pc := 83) dX12_comesOut_83 rfl rfl ?_
            refine fr_iconst (pc := 90) dX12_comesOut_90 (by decide) ?_
            refine fr_goto (tg := 95) (pc := 91) dX12_comesOut_91 rfl ?_
            refine fr_istore_n (ls2 := [(2, 142), (0, a1), (0, r3), (0, 0)]) (pc := 95) dX12_comesOut_95 rfl (Nat.le_of_ble_eq_true rfl) rfl ?_
            refine fr_aload_n (pc := 96) dX12_comesOut_96 rfl rfl ?_
            refine fr_dup (pc := 97) dX12_comesOut_97 pm_t2 ?_
            refine fr_getf (a := 142) (i := 34) (v := gI M2 142 34) (t := 0) (pc := 98) dX12_comesOut_98 rfl pf_12_274 rfl s0_142 rfl rfl ?_
            refine fr_iconst (pc := 101) dX12_comesOut_101 (by decide) ?_
            refine fr_iadd (z := w32 ((gI M2 142 34) + 1)) (pc := 102) dX12_comesOut_102 rfl ?_
            refine fr_put (a := 142) (i := 34) (pc := 103) dX12_comesOut_103 rfl pf_12_274 rfl s0_142 rfl rfl nf_142_34 rfl ?_
            refine fr_iload_n (pc := 106) dX12_comesOut_106 rfl rfl ?_
            exact fr_iret (pc := 107) dX12_comesOut_107 (Or.inr (Or.inl ⟨rfl, Or.inl rfl⟩)) hq
          · refine fr_iload_n (pc := 94) dX12_comesOut_94 rfl rfl ?_
            refine fr_istore_n (ls2 := [(2, 142), (0, a1), (0, r3), (0, 1)]) (pc := 95) dX12_comesOut_95 rfl (Nat.le_of_ble_eq_true rfl) rfl ?_
            refine fr_aload_n (pc := 96) dX12_comesOut_96 rfl rfl ?_
            refine fr_dup (pc := 97) dX12_comesOut_97 pm_t2 ?_
            refine fr_getf (a := 142) (i := 34) (v := gI M2 142 34) (t := 0) (pc := 98) dX12_comesOut_98 rfl pf_12_274 rfl s0_142 rfl rfl ?_
            refine fr_iconst (pc := 101) dX12_comesOut_101 (by decide) ?_
            refine fr_iadd (z := w32 ((gI M2 142 34) + 1)) (pc := 102) dX12_comesOut_102 rfl ?_
            refine fr_put (a := 142) (i := 34) (pc := 103) dX12_comesOut_103 rfl pf_12_274 rfl s0_142 rfl rfl nf_142_34 rfl ?_
            refine fr_iload_n (pc := 106) dX12_comesOut_106 rfl rfl ?_
            exact fr_iret (pc := 107) dX12_comesOut_107 (Or.inr (Or.inl ⟨rfl, Or.inr rfl⟩)) hq
    · refine fr_iconst (pc := 24) dX12_comesOut_24 (by decide) ?_
      refine fr_goto (tg := 29) (pc := 25) dX12_comesOut_25 rfl ?_
      refine fr_aload_n (pc := 29) dX12_comesOut_29 rfl rfl ?_
      refine fr_getr (a := 142) (pc := 30) dX12_comesOut_30 rfl pf_12_41 s0_142 rfl rf_142_23 ?_
      refine fr_iload_n (pc := 33) dX12_comesOut_33 rfl rfl ?_
      obtain ⟨hb18, hq⟩ := hq
      refine fr_iaload (a := 153) (v := gI M2 153 a1) (pc := 34) dX12_comesOut_34 rfl s0_153 hb18 rfl ?_
      refine fr_iconst (pc := 35) dX12_comesOut_35 (by decide) ?_
      refine fr_iand (z := pm_iand (gI M2 153 a1) 2) (pc := 36) dX12_comesOut_36 rfl ?_
      refine fr_ifc_le (tg := 44) (pc := 37) dX12_comesOut_37 rfl hq (fun hc19 hq => ?_) (fun hc19 hq => ?_)
      · refine fr_iconst (pc := 44) dX12_comesOut_44 (by decide) ?_
        refine fr_icmF (tg := 52) (pc := 45) dX12_comesOut_45 rfl rfl ?_
        refine fr_iconst (pc := 48) dX12_comesOut_48 (by decide) ?_
        refine fr_goto (tg := 53) (pc := 49) dX12_comesOut_49 rfl ?_
        refine fr_istore_n (ls2 := [(2, 142), (0, a1), (0, r3), (0, 1)]) (pc := 53) dX12_comesOut_53 rfl (Nat.le_of_ble_eq_true rfl) rfl ?_
        refine fr_iload_n (pc := 54) dX12_comesOut_54 rfl rfl ?_
        refine fr_aload_n (pc := 55) dX12_comesOut_55 rfl rfl ?_
        refine fr_getf (a := 142) (i := 36) (v := gI M2 142 36) (t := 0) (pc := 56) dX12_comesOut_56 rfl pf_12_63 rfl s0_142 rfl rfl ?_
        refine fr_icm_ne (tg := 69) (pc := 59) dX12_comesOut_59 rfl hq (fun hc20 hq => ?_) (fun hc20 hq => ?_)
        · refine fr_aload_n (pc := 62) dX12_comesOut_62 rfl rfl ?_
          refine fr_getf (a := 142) (i := 37) (v := gI M2 142 37) (t := 0) (pc := 63) dX12_comesOut_63 rfl pf_12_271 rfl s0_142 rfl rfl ?_
          refine fr_goto (tg := 70) (pc := 66) dX12_comesOut_66 rfl ?_
          refine fr_istore_n (ls2 := [(2, 142), (0, a1), (0, r3), (0, gI M2 142 37)]) (pc := 70) dX12_comesOut_70 rfl (Nat.le_of_ble_eq_true rfl) rfl ?_
          refine fr_aload_n (pc := 71) dX12_comesOut_71 rfl rfl ?_
          refine fr_getf (a := 142) (i := 34) (v := gI M2 142 34) (t := 0) (pc := 72) dX12_comesOut_72 rfl pf_12_274 rfl s0_142 rfl rfl ?_
          refine fr_aload_n (pc := 75) dX12_comesOut_75 rfl rfl ?_
          refine fr_getf (a := 142) (i := 35) (v := gI M2 142 35) (t := 0) (pc := 76) dX12_comesOut_76 rfl pf_12_59 rfl s0_142 rfl rfl ?_
          refine fr_icm_ne (tg := 94) (pc := 79) dX12_comesOut_79 rfl hq (fun hc21 hq => ?_) (fun hc21 hq => ?_)
          · refine fr_iload_n (pc := 82) dX12_comesOut_82 rfl rfl ?_
            refine fr_ifc_ne (tg := 90) (pc := 83) dX12_comesOut_83 rfl hq (fun hc22 hq => ?_) (fun hc22 hq => ?_)
            · refine fr_iconst (pc := 86) dX12_comesOut_86 (by decide) ?_
              refine fr_goto (tg := 95) (pc := 87) dX12_comesOut_87 rfl ?_
              refine fr_istore_n (ls2 := [(2, 142), (0, a1), (0, r3), (0, 1)]) (pc := 95) dX12_comesOut_95 rfl (Nat.le_of_ble_eq_true rfl) rfl ?_
              refine fr_aload_n (pc := 96) dX12_comesOut_96 rfl rfl ?_
              refine fr_dup (pc := 97) dX12_comesOut_97 pm_t2 ?_
              refine fr_getf (a := 142) (i := 34) (v := gI M2 142 34) (t := 0) (pc := 98) dX12_comesOut_98 rfl pf_12_274 rfl s0_142 rfl rfl ?_
              refine fr_iconst (pc := 101) dX12_comesOut_101 (by decide) ?_
              refine fr_iadd (z := w32 ((gI M2 142 34) + 1)) (pc := 102) dX12_comesOut_102 rfl ?_
              refine fr_put (a := 142) (i := 34) (pc := 103) dX12_comesOut_103 rfl pf_12_274 rfl s0_142 rfl rfl nf_142_34 rfl ?_
              refine fr_iload_n (pc := 106) dX12_comesOut_106 rfl rfl ?_
              exact fr_iret (pc := 107) dX12_comesOut_107 (Or.inr (Or.inl ⟨rfl, Or.inr rfl⟩)) hq
            · refine fr_iconst (pc := 90) dX12_comesOut_90 (by decide) ?_
              refine fr_goto (tg := 95) (pc := 91) dX12_comesOut_91 rfl ?_
              refine fr_istore_n (ls2 := [(2, 142), (0, a1), (0, r3), (0, 0)]) (pc := 95) dX12_comesOut_95 rfl (Nat.le_of_ble_eq_true rfl) rfl ?_
              refine fr_aload_n (pc := 96) dX12_comesOut_96 rfl rfl ?_
              refine fr_dup (pc := 97) dX12_comesOut_97 pm_t2 ?_
              refine fr_getf (a := 142) (i := 34) (v := gI M2 142 34) (t := 0) (pc := 98) dX12_comesOut_98 rfl pf_12_274 rfl s0_142 rfl rfl ?_
              refine fr_iconst (pc := 101) dX12_comesOut_101 (by decide) ?_
              refine fr_iadd (z := w32 ((gI M2 142 34) + 1)) (pc := 102) dX12_comesOut_102 rfl ?_
              refine fr_put (a := 142) (i := 34) (pc := 103) dX12_comesOut_103 rfl pf_12_274 rfl s0_142 rfl rfl nf_142_34 rfl ?_
              refine fr_iload_n (pc := 106) dX12_comesOut_106 rfl rfl ?_
              exact fr_iret (pc := 107) dX12_comesOut_107 (Or.inr (Or.inl ⟨rfl, Or.inl rfl⟩)) hq
          · refine fr_iload_n (pc := 94) dX12_comesOut_94 rfl rfl ?_
            refine fr_istore_n (ls2 := [(2, 142), (0, a1), (0, r3), (0, gI M2 142 37)]) (pc := 95) dX12_comesOut_95 rfl (Nat.le_of_ble_eq_true rfl) rfl ?_
            refine fr_aload_n (pc := 96) dX12_comesOut_96 rfl rfl ?_
            refine fr_dup (pc := 97) dX12_comesOut_97 pm_t2 ?_
            refine fr_getf (a := 142) (i := 34) (v := gI M2 142 34) (t := 0) (pc := 98) dX12_comesOut_98 rfl pf_12_274 rfl s0_142 rfl rfl ?_
            refine fr_iconst (pc := 101) dX12_comesOut_101 (by decide) ?_
            refine fr_iadd (z := w32 ((gI M2 142 34) + 1)) (pc := 102) dX12_comesOut_102 rfl ?_
            refine fr_put (a := 142) (i := 34) (pc := 103) dX12_comesOut_103 rfl pf_12_274 rfl s0_142 rfl rfl nf_142_34 rfl ?_
            refine fr_iload_n (pc := 106) dX12_comesOut_106 rfl rfl ?_
            obtain ⟨hz23, hq⟩ := hq
            exact fr_iret (pc := 107) dX12_comesOut_107 (Or.inr (Or.inl ⟨rfl, hz23⟩)) hq
        · refine fr_iload_n (pc := 69) dX12_comesOut_69 rfl rfl ?_
          refine fr_istore_n (ls2 := [(2, 142), (0, a1), (0, r3), (0, 1)]) (pc := 70) dX12_comesOut_70 rfl (Nat.le_of_ble_eq_true rfl) rfl ?_
          refine fr_aload_n (pc := 71) dX12_comesOut_71 rfl rfl ?_
          refine fr_getf (a := 142) (i := 34) (v := gI M2 142 34) (t := 0) (pc := 72) dX12_comesOut_72 rfl pf_12_274 rfl s0_142 rfl rfl ?_
          refine fr_aload_n (pc := 75) dX12_comesOut_75 rfl rfl ?_
          refine fr_getf (a := 142) (i := 35) (v := gI M2 142 35) (t := 0) (pc := 76) dX12_comesOut_76 rfl pf_12_59 rfl s0_142 rfl rfl ?_
          refine fr_icm_ne (tg := 94) (pc := 79) dX12_comesOut_79 rfl hq (fun hc24 hq => ?_) (fun hc24 hq => ?_)
          · refine fr_iload_n (pc := 82) dX12_comesOut_82 rfl rfl ?_
            refine fr_ifcT (tg := 90) (pc := 83) dX12_comesOut_83 rfl rfl ?_
            refine fr_iconst (pc := 90) dX12_comesOut_90 (by decide) ?_
            refine fr_goto (tg := 95) (pc := 91) dX12_comesOut_91 rfl ?_
            refine fr_istore_n (ls2 := [(2, 142), (0, a1), (0, r3), (0, 0)]) (pc := 95) dX12_comesOut_95 rfl (Nat.le_of_ble_eq_true rfl) rfl ?_
            refine fr_aload_n (pc := 96) dX12_comesOut_96 rfl rfl ?_
            refine fr_dup (pc := 97) dX12_comesOut_97 pm_t2 ?_
            refine fr_getf (a := 142) (i := 34) (v := gI M2 142 34) (t := 0) (pc := 98) dX12_comesOut_98 rfl pf_12_274 rfl s0_142 rfl rfl ?_
            refine fr_iconst (pc := 101) dX12_comesOut_101 (by decide) ?_
            refine fr_iadd (z := w32 ((gI M2 142 34) + 1)) (pc := 102) dX12_comesOut_102 rfl ?_
            refine fr_put (a := 142) (i := 34) (pc := 103) dX12_comesOut_103 rfl pf_12_274 rfl s0_142 rfl rfl nf_142_34 rfl ?_
            refine fr_iload_n (pc := 106) dX12_comesOut_106 rfl rfl ?_
            exact fr_iret (pc := 107) dX12_comesOut_107 (Or.inr (Or.inl ⟨rfl, Or.inl rfl⟩)) hq
          · refine fr_iload_n (pc := 94) dX12_comesOut_94 rfl rfl ?_
            refine fr_istore_n (ls2 := [(2, 142), (0, a1), (0, r3), (0, 1)]) (pc := 95) dX12_comesOut_95 rfl (Nat.le_of_ble_eq_true rfl) rfl ?_
            refine fr_aload_n (pc := 96) dX12_comesOut_96 rfl rfl ?_
            refine fr_dup (pc := 97) dX12_comesOut_97 pm_t2 ?_
            refine fr_getf (a := 142) (i := 34) (v := gI M2 142 34) (t := 0) (pc := 98) dX12_comesOut_98 rfl pf_12_274 rfl s0_142 rfl rfl ?_
            refine fr_iconst (pc := 101) dX12_comesOut_101 (by decide) ?_
            refine fr_iadd (z := w32 ((gI M2 142 34) + 1)) (pc := 102) dX12_comesOut_102 rfl ?_
            refine fr_put (a := 142) (i := 34) (pc := 103) dX12_comesOut_103 rfl pf_12_274 rfl s0_142 rfl rfl nf_142_34 rfl ?_
            refine fr_iload_n (pc := 106) dX12_comesOut_106 rfl rfl ?_
            exact fr_iret (pc := 107) dX12_comesOut_107 (Or.inr (Or.inl ⟨rfl, Or.inr rfl⟩)) hq
      · refine fr_iconst (pc := 40) dX12_comesOut_40 (by decide) ?_
        refine fr_goto (tg := 45) (pc := 41) dX12_comesOut_41 rfl ?_
        refine fr_icmT (tg := 52) (pc := 45) dX12_comesOut_45 rfl rfl ?_
        refine fr_iconst (pc := 52) dX12_comesOut_52 (by decide) ?_
        refine fr_istore_n (ls2 := [(2, 142), (0, a1), (0, r3), (0, 0)]) (pc := 53) dX12_comesOut_53 rfl (Nat.le_of_ble_eq_true rfl) rfl ?_
        refine fr_iload_n (pc := 54) dX12_comesOut_54 rfl rfl ?_
        refine fr_aload_n (pc := 55) dX12_comesOut_55 rfl rfl ?_
        refine fr_getf (a := 142) (i := 36) (v := gI M2 142 36) (t := 0) (pc := 56) dX12_comesOut_56 rfl pf_12_63 rfl s0_142 rfl rfl ?_
        refine fr_icm_ne (tg := 69) (pc := 59) dX12_comesOut_59 rfl hq (fun hc25 hq => ?_) (fun hc25 hq => ?_)
        · refine fr_aload_n (pc := 62) dX12_comesOut_62 rfl rfl ?_
          refine fr_getf (a := 142) (i := 37) (v := gI M2 142 37) (t := 0) (pc := 63) dX12_comesOut_63 rfl pf_12_271 rfl s0_142 rfl rfl ?_
          refine fr_goto (tg := 70) (pc := 66) dX12_comesOut_66 rfl ?_
          refine fr_istore_n (ls2 := [(2, 142), (0, a1), (0, r3), (0, gI M2 142 37)]) (pc := 70) dX12_comesOut_70 rfl (Nat.le_of_ble_eq_true rfl) rfl ?_
          refine fr_aload_n (pc := 71) dX12_comesOut_71 rfl rfl ?_
          refine fr_getf (a := 142) (i := 34) (v := gI M2 142 34) (t := 0) (pc := 72) dX12_comesOut_72 rfl pf_12_274 rfl s0_142 rfl rfl ?_
          refine fr_aload_n (pc := 75) dX12_comesOut_75 rfl rfl ?_
          refine fr_getf (a := 142) (i := 35) (v := gI M2 142 35) (t := 0) (pc := 76) dX12_comesOut_76 rfl pf_12_59 rfl s0_142 rfl rfl ?_
          refine fr_icm_ne (tg := 94) (pc := 79) dX12_comesOut_79 rfl hq (fun hc26 hq => ?_) (fun hc26 hq => ?_)
          · refine fr_iload_n (pc := 82) dX12_comesOut_82 rfl rfl ?_
            refine fr_ifc_ne (tg := 90) (pc := 83) dX12_comesOut_83 rfl hq (fun hc27 hq => ?_) (fun hc27 hq => ?_)
            · refine fr_iconst (pc := 86) dX12_comesOut_86 (by decide) ?_
              refine fr_goto (tg := 95) (pc := 87) dX12_comesOut_87 rfl ?_
              refine fr_istore_n (ls2 := [(2, 142), (0, a1), (0, r3), (0, 1)]) (pc := 95) dX12_comesOut_95 rfl (Nat.le_of_ble_eq_true rfl) rfl ?_
              refine fr_aload_n (pc := 96) dX12_comesOut_96 rfl rfl ?_
              refine fr_dup (pc := 97) dX12_comesOut_97 pm_t2 ?_
              refine fr_getf (a := 142) (i := 34) (v := gI M2 142 34) (t := 0) (pc := 98) dX12_comesOut_98 rfl pf_12_274 rfl s0_142 rfl rfl ?_
              refine fr_iconst (pc := 101) dX12_comesOut_101 (by decide) ?_
              refine fr_iadd (z := w32 ((gI M2 142 34) + 1)) (pc := 102) dX12_comesOut_102 rfl ?_
              refine fr_put (a := 142) (i := 34) (pc := 103) dX12_comesOut_103 rfl pf_12_274 rfl s0_142 rfl rfl nf_142_34 rfl ?_
              refine fr_iload_n (pc := 106) dX12_comesOut_106 rfl rfl ?_
              exact fr_iret (pc := 107) dX12_comesOut_107 (Or.inr (Or.inl ⟨rfl, Or.inr rfl⟩)) hq
            · refine fr_iconst (pc := 90) dX12_comesOut_90 (by decide) ?_
              refine fr_goto (tg := 95) (pc := 91) dX12_comesOut_91 rfl ?_
              refine fr_istore_n (ls2 := [(2, 142), (0, a1), (0, r3), (0, 0)]) (pc := 95) dX12_comesOut_95 rfl (Nat.le_of_ble_eq_true rfl) rfl ?_
              refine fr_aload_n (pc := 96) dX12_comesOut_96 rfl rfl ?_
              refine fr_dup (pc := 97) dX12_comesOut_97 pm_t2 ?_
              refine fr_getf (a := 142) (i := 34) (v := gI M2 142 34) (t := 0) (pc := 98) dX12_comesOut_98 rfl pf_12_274 rfl s0_142 rfl rfl ?_
              refine fr_iconst (pc := 101) dX12_comesOut_101 (by decide) ?_
              refine fr_iadd (z := w32 ((gI M2 142 34) + 1)) (pc := 102) dX12_comesOut_102 rfl ?_
              refine fr_put (a := 142) (i := 34) (pc := 103) dX12_comesOut_103 rfl pf_12_274 rfl s0_142 rfl rfl nf_142_34 rfl ?_
              refine fr_iload_n (pc := 106) dX12_comesOut_106 rfl rfl ?_
              exact fr_iret (pc := 107) dX12_comesOut_107 (Or.inr (Or.inl ⟨rfl, Or.inl rfl⟩)) hq
          · refine fr_iload_n (pc := 94) dX12_comesOut_94 rfl rfl ?_
            refine fr_istore_n (ls2 := [(2, 142), (0, a1), (0, r3), (0, gI M2 142 37)]) (pc := 95) dX12_comesOut_95 rfl (Nat.le_of_ble_eq_true rfl) rfl ?_
            refine fr_aload_n (pc := 96) dX12_comesOut_96 rfl rfl ?_
            refine fr_dup (pc := 97) dX12_comesOut_97 pm_t2 ?_
            refine fr_getf (a := 142) (i := 34) (v := gI M2 142 34) (t := 0) (pc := 98) dX12_comesOut_98 rfl pf_12_274 rfl s0_142 rfl rfl ?_
            refine fr_iconst (pc := 101) dX12_comesOut_101 (by decide) ?_
            refine fr_iadd (z := w32 ((gI M2 142 34) + 1)) (pc := 102) dX12_comesOut_102 rfl ?_
            refine fr_put (a := 142) (i := 34) (pc := 103) dX12_comesOut_103 rfl pf_12_274 rfl s0_142 rfl rfl nf_142_34 rfl ?_
            refine fr_iload_n (pc := 106) dX12_comesOut_106 rfl rfl ?_
            obtain ⟨hz28, hq⟩ := hq
            exact fr_iret (pc := 107) dX12_comesOut_107 (Or.inr (Or.inl ⟨rfl, hz28⟩)) hq
        · refine fr_iload_n (pc := 69) dX12_comesOut_69 rfl rfl ?_
          refine fr_istore_n (ls2 := [(2, 142), (0, a1), (0, r3), (0, 0)]) (pc := 70) dX12_comesOut_70 rfl (Nat.le_of_ble_eq_true rfl) rfl ?_
          refine fr_aload_n (pc := 71) dX12_comesOut_71 rfl rfl ?_
          refine fr_getf (a := 142) (i := 34) (v := gI M2 142 34) (t := 0) (pc := 72) dX12_comesOut_72 rfl pf_12_274 rfl s0_142 rfl rfl ?_
          refine fr_aload_n (pc := 75) dX12_comesOut_75 rfl rfl ?_
          refine fr_getf (a := 142) (i := 35) (v := gI M2 142 35) (t := 0) (pc := 76) dX12_comesOut_76 rfl pf_12_59 rfl s0_142 rfl rfl ?_
          refine fr_icm_ne (tg := 94) (pc := 79) dX12_comesOut_79 rfl hq (fun hc29 hq => ?_) (fun hc29 hq => ?_)
          · refine fr_iload_n (pc := 82) dX12_comesOut_82 rfl rfl ?_
            refine fr_ifcF (tg := 90) (pc := 83) dX12_comesOut_83 rfl rfl ?_
            refine fr_iconst (pc := 86) dX12_comesOut_86 (by decide) ?_
            refine fr_goto (tg := 95) (pc := 87) dX12_comesOut_87 rfl ?_
            refine fr_istore_n (ls2 := [(2, 142), (0, a1), (0, r3), (0, 1)]) (pc := 95) dX12_comesOut_95 rfl (Nat.le_of_ble_eq_true rfl) rfl ?_
            refine fr_aload_n (pc := 96) dX12_comesOut_96 rfl rfl ?_
            refine fr_dup (pc := 97) dX12_comesOut_97 pm_t2 ?_
            refine fr_getf (a := 142) (i := 34) (v := gI M2 142 34) (t := 0) (pc := 98) dX12_comesOut_98 rfl pf_12_274 rfl s0_142 rfl rfl ?_
            refine fr_iconst (pc := 101) dX12_comesOut_101 (by decide) ?_
            refine fr_iadd (z := w32 ((gI M2 142 34) + 1)) (pc := 102) dX12_comesOut_102 rfl ?_
            refine fr_put (a := 142) (i := 34) (pc := 103) dX12_comesOut_103 rfl pf_12_274 rfl s0_142 rfl rfl nf_142_34 rfl ?_
            refine fr_iload_n (pc := 106) dX12_comesOut_106 rfl rfl ?_
            exact fr_iret (pc := 107) dX12_comesOut_107 (Or.inr (Or.inl ⟨rfl, Or.inr rfl⟩)) hq
          · refine fr_iload_n (pc := 94) dX12_comesOut_94 rfl rfl ?_
            refine fr_istore_n (ls2 := [(2, 142), (0, a1), (0, r3), (0, 0)]) (pc := 95) dX12_comesOut_95 rfl (Nat.le_of_ble_eq_true rfl) rfl ?_
            refine fr_aload_n (pc := 96) dX12_comesOut_96 rfl rfl ?_
            refine fr_dup (pc := 97) dX12_comesOut_97 pm_t2 ?_
            refine fr_getf (a := 142) (i := 34) (v := gI M2 142 34) (t := 0) (pc := 98) dX12_comesOut_98 rfl pf_12_274 rfl s0_142 rfl rfl ?_
            refine fr_iconst (pc := 101) dX12_comesOut_101 (by decide) ?_
            refine fr_iadd (z := w32 ((gI M2 142 34) + 1)) (pc := 102) dX12_comesOut_102 rfl ?_
            refine fr_put (a := 142) (i := 34) (pc := 103) dX12_comesOut_103 rfl pf_12_274 rfl s0_142 rfl rfl nf_142_34 rfl ?_
            refine fr_iload_n (pc := 106) dX12_comesOut_106 rfl rfl ?_
            exact fr_iret (pc := 107) dX12_comesOut_107 (Or.inr (Or.inl ⟨rfl, Or.inl rfl⟩)) hq
  · refine fr_iconst (pc := 18) dX12_comesOut_18 (by decide) ?_
    exact fr_iret (pc := 19) dX12_comesOut_19 (Or.inr (Or.inl ⟨rfl, Or.inl rfl⟩)) hq
theorem k12_done_r {a1 a2 : Int} {M : pm_M} {K : Int → pm_M → Prop} (hq : (if a1 < 0 then K (-1) (upI M 142 0 0) else (if a1 ≤ w32 ((gI M 142 24) - 1) then (if a2 < 0 then K (-1) (upI M 142 0 0) else (if a2 ≤ w32 ((gI M 144 0) - 1) then ((0 ≤ a2 ∧ a2 < 800) ∧ (if gI M 145 a2 ≤ 3 then k12_runs a1 (upI M 142 0 0) (fun M7 => ((0 ≤ a2 ∧ a2 < 60) ∧ K (gI M7 157 a2) M7)) else K (-1) (upI M 142 0 0))) else K (-1) (upI M 142 0 0))) else K (-1) (upI M 142 0 0)))) : k12_done a1 a2 M K := by
  intro sc d hd
  refine fr_aload_n (pc := 0) dX12_done_0 rfl rfl ?_
  refine fr_iconst (pc := 1) dX12_done_1 (by decide) ?_
  refine fr_put (a := 142) (i := 0) (pc := 2) dX12_done_2 rfl pf_12_121 rfl s0_142 rfl rfl nf_142_0 rfl ?_
  refine fr_aload_n (pc := 5) dX12_done_5 rfl rfl ?_
  refine fr_iload_n (pc := 6) dX12_done_6 rfl rfl ?_
  refine fr_inVI (a := 142) (as := [(0, a1)]) (rest := []) (ls' := [(2, 142), (0, a1)]) (c1 := 0) (c2 := 0) (pc := 7) dX12_done_7 pl_12_249 rfl ⟨Nat.le_of_ble_eq_true rfl, Nat.le_of_ble_eq_true rfl⟩ rfl rfl rfl s0_142 (Nat.le_of_ble_eq_true rfl) (by omega) rfl rfl (pm_zc _) ?_ (fun y M' h => h)
  refine fr_iload_n (pc := 0) dX12_isTest_0 rfl rfl ?_
  refine fr_iconst (pc := 1) dX12_isTest_1 (by decide) ?_
  refine fr_aload_n (pc := 2) dX12_isTest_2 rfl rfl ?_
  refine fr_getf (a := 142) (i := 24) (v := gI M 142 24) (t := 0) (pc := 3) dX12_isTest_3 rfl pf_12_246 rfl s0_142 rfl (gI_nf _ _ (by decide)) ?_
  refine fr_iconst (pc := 6) dX12_isTest_6 (by decide) ?_
  refine fr_isub (z := w32 ((gI M 142 24) - 1)) (pc := 7) dX12_isTest_7 rfl ?_
  refine fr_inSI (as := [(0, a1), (0, 0), (0, w32 ((gI M 142 24) - 1))]) (rest := []) (ls' := [(0, a1), (0, 0), (0, w32 ((gI M 142 24) - 1))]) (c1 := 0) (c2 := 0) (pc := 8) dX12_isTest_8 pl_12_147 rfl ⟨Nat.le_of_ble_eq_true rfl, Nat.le_of_ble_eq_true rfl⟩ rfl rfl  (by omega) rfl rfl (pm_zc _) ?_ (fun y M' h => h)
  refine fr_iload_n (pc := 0) dX12_within_0 rfl rfl ?_
  refine fr_iload_n (pc := 1) dX12_within_1 rfl rfl ?_
  refine fr_icm_lt (tg := 14) (pc := 2) dX12_within_2 rfl hq (fun hc1 hq => ?_) (fun hc1 hq => ?_)
  · refine fr_iconst (pc := 14) dX12_within_14 (by decide) ?_
    refine fr_iret (pc := 15) dX12_within_15 (Or.inr (Or.inl ⟨rfl, Or.inl rfl⟩)) ?_
    refine fr_iret (pc := 11) dX12_isTest_11 (Or.inr (Or.inl ⟨rfl, Or.inl rfl⟩)) ?_
    refine fr_ifcT (tg := 21) (pc := 10) dX12_done_10 rfl rfl ?_
    refine fr_iconst (pc := 21) dX12_done_21 (by decide) ?_
    exact fr_iret (pc := 22) dX12_done_22 (Or.inl rfl) hq
  · refine fr_iload_n (pc := 5) dX12_within_5 rfl rfl ?_
    refine fr_iload_n (pc := 6) dX12_within_6 rfl rfl ?_
    refine fr_icm_gt (tg := 14) (pc := 7) dX12_within_7 rfl hq (fun hc2 hq => ?_) (fun hc2 hq => ?_)
    · refine fr_iconst (pc := 10) dX12_within_10 (by decide) ?_
      refine fr_goto (tg := 15) (pc := 11) dX12_within_11 rfl ?_
      refine fr_iret (pc := 15) dX12_within_15 (Or.inr (Or.inl ⟨rfl, Or.inr rfl⟩)) ?_
      refine fr_iret (pc := 11) dX12_isTest_11 (Or.inr (Or.inl ⟨rfl, Or.inr rfl⟩)) ?_
      refine fr_ifcF (tg := 21) (pc := 10) dX12_done_10 rfl rfl ?_
      refine fr_aload_n (pc := 13) dX12_done_13 rfl rfl ?_
      refine fr_iload_n (pc := 14) dX12_done_14 rfl rfl ?_
      refine fr_inVI (a := 142) (as := [(0, a2)]) (rest := []) (ls' := [(2, 142), (0, a2)]) (c1 := 0) (c2 := 0) (pc := 15) dX12_done_15 pl_12_308 rfl ⟨Nat.le_of_ble_eq_true rfl, Nat.le_of_ble_eq_true rfl⟩ rfl rfl rfl s0_142 (Nat.le_of_ble_eq_true rfl) (by omega) rfl rfl (pm_zc _) ?_ (fun y M' h => h)
      refine fr_aload_n (pc := 0) dX12_isStatement_0 rfl rfl ?_
      refine fr_iload_n (pc := 1) dX12_isStatement_1 rfl rfl ?_
      refine fr_inVI (a := 142) (as := [(0, a2)]) (rest := []) (ls' := [(2, 142), (0, a2)]) (c1 := 0) (c2 := 0) (pc := 2) dX12_isStatement_2 pl_12_305 rfl ⟨Nat.le_of_ble_eq_true rfl, Nat.le_of_ble_eq_true rfl⟩ rfl rfl rfl s0_142 (Nat.le_of_ble_eq_true rfl) (by omega) rfl rfl (pm_zc _) ?_ (fun y M' h => h)
      refine fr_iload_n (pc := 0) dX12_isNode_0 rfl rfl ?_
      refine fr_iconst (pc := 1) dX12_isNode_1 (by decide) ?_
      refine fr_aload_n (pc := 2) dX12_isNode_2 rfl rfl ?_
      refine fr_getr (a := 142) (pc := 3) dX12_isNode_3 rfl pf_12_13 s0_142 rfl rf_142_9 ?_
      refine fr_iconst (pc := 6) dX12_isNode_6 (by decide) ?_
      refine fr_iaload (a := 144) (v := gI M 144 0) (pc := 7) dX12_isNode_7 rfl s0_144 (by decide) (gI_ne _ _ _ _ (by decide)) ?_
      refine fr_iconst (pc := 8) dX12_isNode_8 (by decide) ?_
      refine fr_isub (z := w32 ((gI M 144 0) - 1)) (pc := 9) dX12_isNode_9 rfl ?_
      refine fr_inSI (as := [(0, a2), (0, 0), (0, w32 ((gI M 144 0) - 1))]) (rest := []) (ls' := [(0, a2), (0, 0), (0, w32 ((gI M 144 0) - 1))]) (c1 := 0) (c2 := 0) (pc := 10) dX12_isNode_10 pl_12_147 rfl ⟨Nat.le_of_ble_eq_true rfl, Nat.le_of_ble_eq_true rfl⟩ rfl rfl  (by omega) rfl rfl (pm_zc _) ?_ (fun y M' h => h)
      refine fr_iload_n (pc := 0) dX12_within_0 rfl rfl ?_
      refine fr_iload_n (pc := 1) dX12_within_1 rfl rfl ?_
      refine fr_icm_lt (tg := 14) (pc := 2) dX12_within_2 rfl hq (fun hc3 hq => ?_) (fun hc3 hq => ?_)
      · refine fr_iconst (pc := 14) dX12_within_14 (by decide) ?_
        refine fr_iret (pc := 15) dX12_within_15 (Or.inr (Or.inl ⟨rfl, Or.inl rfl⟩)) ?_
        refine fr_iret (pc := 13) dX12_isNode_13 (Or.inr (Or.inl ⟨rfl, Or.inl rfl⟩)) ?_
        refine fr_ifcT (tg := 22) (pc := 5) dX12_isStatement_5 rfl rfl ?_
        refine fr_iconst (pc := 22) dX12_isStatement_22 (by decide) ?_
        refine fr_iret (pc := 23) dX12_isStatement_23 (Or.inr (Or.inl ⟨rfl, Or.inl rfl⟩)) ?_
        refine fr_ifcF (tg := 23) (pc := 18) dX12_done_18 rfl rfl ?_
        refine fr_iconst (pc := 21) dX12_done_21 (by decide) ?_
        exact fr_iret (pc := 22) dX12_done_22 (Or.inl rfl) hq
      · refine fr_iload_n (pc := 5) dX12_within_5 rfl rfl ?_
        refine fr_iload_n (pc := 6) dX12_within_6 rfl rfl ?_
        refine fr_icm_gt (tg := 14) (pc := 7) dX12_within_7 rfl hq (fun hc4 hq => ?_) (fun hc4 hq => ?_)
        · refine fr_iconst (pc := 10) dX12_within_10 (by decide) ?_
          refine fr_goto (tg := 15) (pc := 11) dX12_within_11 rfl ?_
          refine fr_iret (pc := 15) dX12_within_15 (Or.inr (Or.inl ⟨rfl, Or.inr rfl⟩)) ?_
          refine fr_iret (pc := 13) dX12_isNode_13 (Or.inr (Or.inl ⟨rfl, Or.inr rfl⟩)) ?_
          refine fr_ifcF (tg := 22) (pc := 5) dX12_isStatement_5 rfl rfl ?_
          refine fr_aload_n (pc := 8) dX12_isStatement_8 rfl rfl ?_
          refine fr_getr (a := 142) (pc := 9) dX12_isStatement_9 rfl pf_12_17 s0_142 rfl rf_142_10 ?_
          refine fr_iload_n (pc := 12) dX12_isStatement_12 rfl rfl ?_
          obtain ⟨hb5, hq⟩ := hq
          refine fr_iaload (a := 145) (v := gI M 145 a2) (pc := 13) dX12_isStatement_13 rfl s0_145 hb5 (gI_ne _ _ _ _ (by decide)) ?_
          refine fr_iconst (pc := 14) dX12_isStatement_14 (by decide) ?_
          refine fr_icm_gt (tg := 22) (pc := 15) dX12_isStatement_15 rfl hq (fun hc6 hq => ?_) (fun hc6 hq => ?_)
          · refine fr_iconst (pc := 18) dX12_isStatement_18 (by decide) ?_
            refine fr_goto (tg := 23) (pc := 19) dX12_isStatement_19 rfl ?_
            refine fr_iret (pc := 23) dX12_isStatement_23 (Or.inr (Or.inl ⟨rfl, Or.inr rfl⟩)) ?_
            refine fr_ifcT (tg := 23) (pc := 18) dX12_done_18 rfl rfl ?_
            refine fr_aload_n (pc := 23) dX12_done_23 rfl rfl ?_
            refine fr_iload_n (pc := 24) dX12_done_24 rfl rfl ?_
            refine fr_inVV (a := 142) (as := [(0, a1)]) (rest := []) (ls' := [(2, 142), (0, a1), (9, 0)]) (c1 := 0) (c2 := 0) (pc := 25) dX12_done_25 pl_12_296 rfl ⟨Nat.le_of_ble_eq_true rfl, Nat.le_of_ble_eq_true rfl⟩ rfl rfl rfl s0_142 (Nat.le_of_ble_eq_true rfl) (by omega) rfl rfl (pm_zc _) (hq sc _ (by omega)) (fun M7 hq => ?_)
            refine fr_aload_n (pc := 28) dX12_done_28 rfl rfl ?_
            refine fr_getr (a := 142) (pc := 29) dX12_done_29 rfl pf_12_53 s0_142 rfl rf_142_32 ?_
            refine fr_iload_n (pc := 32) dX12_done_32 rfl rfl ?_
            obtain ⟨hb9, hq⟩ := hq
            refine fr_iaload (a := 157) (v := gI M7 157 a2) (pc := 33) dX12_done_33 rfl s0_157 hb9 rfl ?_
            exact fr_iret (pc := 34) dX12_done_34 (Or.inl rfl) hq
          · refine fr_iconst (pc := 22) dX12_isStatement_22 (by decide) ?_
            refine fr_iret (pc := 23) dX12_isStatement_23 (Or.inr (Or.inl ⟨rfl, Or.inl rfl⟩)) ?_
            refine fr_ifcF (tg := 23) (pc := 18) dX12_done_18 rfl rfl ?_
            refine fr_iconst (pc := 21) dX12_done_21 (by decide) ?_
            exact fr_iret (pc := 22) dX12_done_22 (Or.inl rfl) hq
        · refine fr_iconst (pc := 14) dX12_within_14 (by decide) ?_
          refine fr_iret (pc := 15) dX12_within_15 (Or.inr (Or.inl ⟨rfl, Or.inl rfl⟩)) ?_
          refine fr_iret (pc := 13) dX12_isNode_13 (Or.inr (Or.inl ⟨rfl, Or.inl rfl⟩)) ?_
          refine fr_ifcT (tg := 22) (pc := 5) dX12_isStatement_5 rfl rfl ?_
          refine fr_iconst (pc := 22) dX12_isStatement_22 (by decide) ?_
          refine fr_iret (pc := 23) dX12_isStatement_23 (Or.inr (Or.inl ⟨rfl, Or.inl rfl⟩)) ?_
          refine fr_ifcF (tg := 23) (pc := 18) dX12_done_18 rfl rfl ?_
          refine fr_iconst (pc := 21) dX12_done_21 (by decide) ?_
          exact fr_iret (pc := 22) dX12_done_22 (Or.inl rfl) hq
    · refine fr_iconst (pc := 14) dX12_within_14 (by decide) ?_
      refine fr_iret (pc := 15) dX12_within_15 (Or.inr (Or.inl ⟨rfl, Or.inl rfl⟩)) ?_
      refine fr_iret (pc := 11) dX12_isTest_11 (Or.inr (Or.inl ⟨rfl, Or.inl rfl⟩)) ?_
      refine fr_ifcT (tg := 21) (pc := 10) dX12_done_10 rfl rfl ?_
      refine fr_iconst (pc := 21) dX12_done_21 (by decide) ?_
      exact fr_iret (pc := 22) dX12_done_22 (Or.inl rfl) hq
theorem k12_trace_r {a1 a2 : Int} {M : pm_M} {K : Int → pm_M → Prop} (hq : (if gI M 144 0 ≤ 0 then K (-1) (upI M 142 0 0) else (if a1 < 0 then K (-1) (upI M 142 0 0) else (if a1 ≤ w32 ((gI M 142 24) - 1) then k12_runs a1 (upI M 142 0 0) (fun M4 => (if a2 < 0 then K (-1) M4 else (if a2 ≤ w32 ((gI M4 142 28) - 1) then ((0 ≤ a2 ∧ a2 < 300) ∧ K (gI M4 158 a2) M4) else K (-1) M4))) else K (-1) (upI M 142 0 0))))) : k12_trace a1 a2 M K := by
  intro sc d hd
  refine fr_aload_n (pc := 0) dX12_trace_0 rfl rfl ?_
  refine fr_iconst (pc := 1) dX12_trace_1 (by decide) ?_
  refine fr_put (a := 142) (i := 0) (pc := 2) dX12_trace_2 rfl pf_12_121 rfl s0_142 rfl rfl nf_142_0 rfl ?_
  refine fr_aload_n (pc := 5) dX12_trace_5 rfl rfl ?_
  refine fr_inVI (a := 142) (as := []) (rest := []) (ls' := [(2, 142)]) (c1 := 0) (c2 := 0) (pc := 6) dX12_trace_6 pl_12_299 rfl ⟨Nat.le_of_ble_eq_true rfl, Nat.le_of_ble_eq_true rfl⟩ rfl rfl rfl s0_142 (Nat.le_of_ble_eq_true rfl) (by omega) rfl rfl (pm_zc _) ?_ (fun y M' h => h)
  refine fr_aload_n (pc := 0) dX12_isProgram_0 rfl rfl ?_
  refine fr_getr (a := 142) (pc := 1) dX12_isProgram_1 rfl pf_12_13 s0_142 rfl rf_142_9 ?_
  refine fr_iconst (pc := 4) dX12_isProgram_4 (by decide) ?_
  refine fr_iaload (a := 144) (v := gI M 144 0) (pc := 5) dX12_isProgram_5 rfl s0_144 (by decide) (gI_ne _ _ _ _ (by decide)) ?_
  refine fr_ifc_le (tg := 13) (pc := 6) dX12_isProgram_6 rfl hq (fun hc1 hq => ?_) (fun hc1 hq => ?_)
  · refine fr_iconst (pc := 13) dX12_isProgram_13 (by decide) ?_
    refine fr_iret (pc := 14) dX12_isProgram_14 (Or.inr (Or.inl ⟨rfl, Or.inl rfl⟩)) ?_
    refine fr_ifcT (tg := 20) (pc := 9) dX12_trace_9 rfl rfl ?_
    refine fr_iconst (pc := 20) dX12_trace_20 (by decide) ?_
    exact fr_iret (pc := 21) dX12_trace_21 (Or.inl rfl) hq
  · refine fr_iconst (pc := 9) dX12_isProgram_9 (by decide) ?_
    refine fr_goto (tg := 14) (pc := 10) dX12_isProgram_10 rfl ?_
    refine fr_iret (pc := 14) dX12_isProgram_14 (Or.inr (Or.inl ⟨rfl, Or.inr rfl⟩)) ?_
    refine fr_ifcF (tg := 20) (pc := 9) dX12_trace_9 rfl rfl ?_
    refine fr_aload_n (pc := 12) dX12_trace_12 rfl rfl ?_
    refine fr_iload_n (pc := 13) dX12_trace_13 rfl rfl ?_
    refine fr_inVI (a := 142) (as := [(0, a1)]) (rest := []) (ls' := [(2, 142), (0, a1)]) (c1 := 0) (c2 := 0) (pc := 14) dX12_trace_14 pl_12_249 rfl ⟨Nat.le_of_ble_eq_true rfl, Nat.le_of_ble_eq_true rfl⟩ rfl rfl rfl s0_142 (Nat.le_of_ble_eq_true rfl) (by omega) rfl rfl (pm_zc _) ?_ (fun y M' h => h)
    refine fr_iload_n (pc := 0) dX12_isTest_0 rfl rfl ?_
    refine fr_iconst (pc := 1) dX12_isTest_1 (by decide) ?_
    refine fr_aload_n (pc := 2) dX12_isTest_2 rfl rfl ?_
    refine fr_getf (a := 142) (i := 24) (v := gI M 142 24) (t := 0) (pc := 3) dX12_isTest_3 rfl pf_12_246 rfl s0_142 rfl (gI_nf _ _ (by decide)) ?_
    refine fr_iconst (pc := 6) dX12_isTest_6 (by decide) ?_
    refine fr_isub (z := w32 ((gI M 142 24) - 1)) (pc := 7) dX12_isTest_7 rfl ?_
    refine fr_inSI (as := [(0, a1), (0, 0), (0, w32 ((gI M 142 24) - 1))]) (rest := []) (ls' := [(0, a1), (0, 0), (0, w32 ((gI M 142 24) - 1))]) (c1 := 0) (c2 := 0) (pc := 8) dX12_isTest_8 pl_12_147 rfl ⟨Nat.le_of_ble_eq_true rfl, Nat.le_of_ble_eq_true rfl⟩ rfl rfl  (by omega) rfl rfl (pm_zc _) ?_ (fun y M' h => h)
    refine fr_iload_n (pc := 0) dX12_within_0 rfl rfl ?_
    refine fr_iload_n (pc := 1) dX12_within_1 rfl rfl ?_
    refine fr_icm_lt (tg := 14) (pc := 2) dX12_within_2 rfl hq (fun hc2 hq => ?_) (fun hc2 hq => ?_)
    · refine fr_iconst (pc := 14) dX12_within_14 (by decide) ?_
      refine fr_iret (pc := 15) dX12_within_15 (Or.inr (Or.inl ⟨rfl, Or.inl rfl⟩)) ?_
      refine fr_iret (pc := 11) dX12_isTest_11 (Or.inr (Or.inl ⟨rfl, Or.inl rfl⟩)) ?_
      refine fr_ifcF (tg := 22) (pc := 17) dX12_trace_17 rfl rfl ?_
      refine fr_iconst (pc := 20) dX12_trace_20 (by decide) ?_
      exact fr_iret (pc := 21) dX12_trace_21 (Or.inl rfl) hq
    · refine fr_iload_n (pc := 5) dX12_within_5 rfl rfl ?_
      refine fr_iload_n (pc := 6) dX12_within_6 rfl rfl ?_
      refine fr_icm_gt (tg := 14) (pc := 7) dX12_within_7 rfl hq (fun hc3 hq => ?_) (fun hc3 hq => ?_)
      · refine fr_iconst (pc := 10) dX12_within_10 (by decide) ?_
        refine fr_goto (tg := 15) (pc := 11) dX12_within_11 rfl ?_
        refine fr_iret (pc := 15) dX12_within_15 (Or.inr (Or.inl ⟨rfl, Or.inr rfl⟩)) ?_
        refine fr_iret (pc := 11) dX12_isTest_11 (Or.inr (Or.inl ⟨rfl, Or.inr rfl⟩)) ?_
        refine fr_ifcT (tg := 22) (pc := 17) dX12_trace_17 rfl rfl ?_
        refine fr_aload_n (pc := 22) dX12_trace_22 rfl rfl ?_
        refine fr_iload_n (pc := 23) dX12_trace_23 rfl rfl ?_
        refine fr_inVV (a := 142) (as := [(0, a1)]) (rest := []) (ls' := [(2, 142), (0, a1), (9, 0)]) (c1 := 0) (c2 := 0) (pc := 24) dX12_trace_24 pl_12_296 rfl ⟨Nat.le_of_ble_eq_true rfl, Nat.le_of_ble_eq_true rfl⟩ rfl rfl rfl s0_142 (Nat.le_of_ble_eq_true rfl) (by omega) rfl rfl (pm_zc _) (hq sc _ (by omega)) (fun M4 hq => ?_)
        refine fr_iload_n (pc := 27) dX12_trace_27 rfl rfl ?_
        refine fr_iconst (pc := 28) dX12_trace_28 (by decide) ?_
        refine fr_aload_n (pc := 29) dX12_trace_29 rfl rfl ?_
        refine fr_getf (a := 142) (i := 28) (v := gI M4 142 28) (t := 0) (pc := 30) dX12_trace_30 rfl pf_12_268 rfl s0_142 rfl rfl ?_
        refine fr_iconst (pc := 33) dX12_trace_33 (by decide) ?_
        refine fr_isub (z := w32 ((gI M4 142 28) - 1)) (pc := 34) dX12_trace_34 rfl ?_
        refine fr_inSI (as := [(0, a2), (0, 0), (0, w32 ((gI M4 142 28) - 1))]) (rest := []) (ls' := [(0, a2), (0, 0), (0, w32 ((gI M4 142 28) - 1))]) (c1 := 0) (c2 := 0) (pc := 35) dX12_trace_35 pl_12_147 rfl ⟨Nat.le_of_ble_eq_true rfl, Nat.le_of_ble_eq_true rfl⟩ rfl rfl  (by omega) rfl rfl (pm_zc _) ?_ (fun y M' h => h)
        refine fr_iload_n (pc := 0) dX12_within_0 rfl rfl ?_
        refine fr_iload_n (pc := 1) dX12_within_1 rfl rfl ?_
        refine fr_icm_lt (tg := 14) (pc := 2) dX12_within_2 rfl hq (fun hc6 hq => ?_) (fun hc6 hq => ?_)
        · refine fr_iconst (pc := 14) dX12_within_14 (by decide) ?_
          refine fr_iret (pc := 15) dX12_within_15 (Or.inr (Or.inl ⟨rfl, Or.inl rfl⟩)) ?_
          refine fr_ifcT (tg := 50) (pc := 38) dX12_trace_38 rfl rfl ?_
          refine fr_iconst (pc := 50) dX12_trace_50 (by decide) ?_
          exact fr_iret (pc := 51) dX12_trace_51 (Or.inl rfl) hq
        · refine fr_iload_n (pc := 5) dX12_within_5 rfl rfl ?_
          refine fr_iload_n (pc := 6) dX12_within_6 rfl rfl ?_
          refine fr_icm_gt (tg := 14) (pc := 7) dX12_within_7 rfl hq (fun hc7 hq => ?_) (fun hc7 hq => ?_)
          · refine fr_iconst (pc := 10) dX12_within_10 (by decide) ?_
            refine fr_goto (tg := 15) (pc := 11) dX12_within_11 rfl ?_
            refine fr_iret (pc := 15) dX12_within_15 (Or.inr (Or.inl ⟨rfl, Or.inr rfl⟩)) ?_
            refine fr_ifcF (tg := 50) (pc := 38) dX12_trace_38 rfl rfl ?_
            refine fr_aload_n (pc := 41) dX12_trace_41 rfl rfl ?_
            refine fr_getr (a := 142) (pc := 42) dX12_trace_42 rfl pf_12_56 s0_142 rfl rf_142_33 ?_
            refine fr_iload_n (pc := 45) dX12_trace_45 rfl rfl ?_
            obtain ⟨hb8, hq⟩ := hq
            refine fr_iaload (a := 158) (v := gI M4 158 a2) (pc := 46) dX12_trace_46 rfl s0_158 hb8 rfl ?_
            refine fr_goto (tg := 51) (pc := 47) dX12_trace_47 rfl ?_
            exact fr_iret (pc := 51) dX12_trace_51 (Or.inl rfl) hq
          · refine fr_iconst (pc := 14) dX12_within_14 (by decide) ?_
            refine fr_iret (pc := 15) dX12_within_15 (Or.inr (Or.inl ⟨rfl, Or.inl rfl⟩)) ?_
            refine fr_ifcT (tg := 50) (pc := 38) dX12_trace_38 rfl rfl ?_
            refine fr_iconst (pc := 50) dX12_trace_50 (by decide) ?_
            exact fr_iret (pc := 51) dX12_trace_51 (Or.inl rfl) hq
      · refine fr_iconst (pc := 14) dX12_within_14 (by decide) ?_
        refine fr_iret (pc := 15) dX12_within_15 (Or.inr (Or.inl ⟨rfl, Or.inl rfl⟩)) ?_
        refine fr_iret (pc := 11) dX12_isTest_11 (Or.inr (Or.inl ⟨rfl, Or.inl rfl⟩)) ?_
        refine fr_ifcF (tg := 22) (pc := 17) dX12_trace_17 rfl rfl ?_
        refine fr_iconst (pc := 20) dX12_trace_20 (by decide) ?_
        exact fr_iret (pc := 21) dX12_trace_21 (Or.inl rfl) hq
theorem k12_node_r {a1 a2 : Int} {M : pm_M} {K : Int → pm_M → Prop} (hq : (if a1 < 0 then K 0 (upI M 142 0 1) else (if a1 ≤ w32 ((gI M 144 0) - 1) then (if a2 < 0 then K 0 (upI M 142 0 1) else (if a2 ≤ 4 then (if a2 = 0 then ((0 ≤ a1 ∧ a1 < 800) ∧ K (gI M 145 a1) (upI M 142 0 0)) else (if a2 = 1 then ((0 ≤ a1 ∧ a1 < 800) ∧ (if gI M 145 a1 = 6 then K (-100) (upI M 142 0 0) else (if gI M 145 a1 < 1 then K (gI M 146 a1) (upI M 142 0 0) else (if gI M 145 a1 ≤ 3 then K (-100) (upI M 142 0 0) else K (gI M 146 a1) (upI M 142 0 0))))) else (if a2 = 2 then ((0 ≤ a1 ∧ a1 < 800) ∧ K (gI M 147 a1) (upI M 142 0 0)) else (if a2 = 3 then k12_statementOf a1 (upI M 142 0 0) (fun r16 M15 => K r16 M15) else k12_isGone a1 (upI M 142 0 0) (fun r18 M17 => (if r18 = 0 then ((0 ≤ a1 ∧ a1 < 60) ∧ (if pm_iand (gI M17 153 a1) 2 ≤ 0 then (if pm_iand (gI M17 153 a1) 4 ≤ 0 then K 0 M17 else K 3 M17) else K 2 M17)) else K 1 M17)))))) else K 0 (upI M 142 0 1))) else K 0 (upI M 142 0 1)))) : k12_node a1 a2 M K := by
  intro sc d hd
  refine fr_aload_n (pc := 0) dX12_node_0 rfl rfl ?_
  refine fr_aload_n (pc := 1) dX12_node_1 rfl rfl ?_
  refine fr_iload_n (pc := 2) dX12_node_2 rfl rfl ?_
  refine fr_inVI (a := 142) (as := [(0, a1)]) (rest := [(2, 142)]) (ls' := [(2, 142), (0, a1)]) (c1 := 0) (c2 := 0) (pc := 3) dX12_node_3 pl_12_305 rfl ⟨Nat.le_of_ble_eq_true rfl, Nat.le_of_ble_eq_true rfl⟩ rfl rfl rfl s0_142 (Nat.le_of_ble_eq_true rfl) (by omega) rfl rfl (pm_zc _) ?_ (fun y M' h => h)
  refine fr_iload_n (pc := 0) dX12_isNode_0 rfl rfl ?_
  refine fr_iconst (pc := 1) dX12_isNode_1 (by decide) ?_
  refine fr_aload_n (pc := 2) dX12_isNode_2 rfl rfl ?_
  refine fr_getr (a := 142) (pc := 3) dX12_isNode_3 rfl pf_12_13 s0_142 rfl rf_142_9 ?_
  refine fr_iconst (pc := 6) dX12_isNode_6 (by decide) ?_
  refine fr_iaload (a := 144) (v := gI M 144 0) (pc := 7) dX12_isNode_7 rfl s0_144 (by decide) rfl ?_
  refine fr_iconst (pc := 8) dX12_isNode_8 (by decide) ?_
  refine fr_isub (z := w32 ((gI M 144 0) - 1)) (pc := 9) dX12_isNode_9 rfl ?_
  refine fr_inSI (as := [(0, a1), (0, 0), (0, w32 ((gI M 144 0) - 1))]) (rest := []) (ls' := [(0, a1), (0, 0), (0, w32 ((gI M 144 0) - 1))]) (c1 := 0) (c2 := 0) (pc := 10) dX12_isNode_10 pl_12_147 rfl ⟨Nat.le_of_ble_eq_true rfl, Nat.le_of_ble_eq_true rfl⟩ rfl rfl  (by omega) rfl rfl (pm_zc _) ?_ (fun y M' h => h)
  refine fr_iload_n (pc := 0) dX12_within_0 rfl rfl ?_
  refine fr_iload_n (pc := 1) dX12_within_1 rfl rfl ?_
  refine fr_icm_lt (tg := 14) (pc := 2) dX12_within_2 rfl hq (fun hc1 hq => ?_) (fun hc1 hq => ?_)
  · refine fr_iconst (pc := 14) dX12_within_14 (by decide) ?_
    refine fr_iret (pc := 15) dX12_within_15 (Or.inr (Or.inl ⟨rfl, Or.inl rfl⟩)) ?_
    refine fr_iret (pc := 13) dX12_isNode_13 (Or.inr (Or.inl ⟨rfl, Or.inl rfl⟩)) ?_
    refine fr_ifcT (tg := 22) (pc := 6) dX12_node_6 rfl rfl ?_
    refine fr_iconst (pc := 22) dX12_node_22 (by decide) ?_
    refine fr_put (a := 142) (i := 0) (pc := 23) dX12_node_23 rfl pf_12_121 rfl s0_142 rfl rfl nf_142_0 rfl ?_
    refine fr_aload_n (pc := 26) dX12_node_26 rfl rfl ?_
    refine fr_getf (a := 142) (i := 0) (v := 1) (t := 0) (pc := 27) dX12_node_27 rfl pf_12_121 rfl s0_142 rfl (gI_eq _ _ _ _) ?_
    refine fr_ifcF (tg := 35) (pc := 30) dX12_node_30 rfl rfl ?_
    refine fr_iconst (pc := 33) dX12_node_33 (by decide) ?_
    exact fr_iret (pc := 34) dX12_node_34 (Or.inl rfl) hq
  · refine fr_iload_n (pc := 5) dX12_within_5 rfl rfl ?_
    refine fr_iload_n (pc := 6) dX12_within_6 rfl rfl ?_
    refine fr_icm_gt (tg := 14) (pc := 7) dX12_within_7 rfl hq (fun hc2 hq => ?_) (fun hc2 hq => ?_)
    · refine fr_iconst (pc := 10) dX12_within_10 (by decide) ?_
      refine fr_goto (tg := 15) (pc := 11) dX12_within_11 rfl ?_
      refine fr_iret (pc := 15) dX12_within_15 (Or.inr (Or.inl ⟨rfl, Or.inr rfl⟩)) ?_
      refine fr_iret (pc := 13) dX12_isNode_13 (Or.inr (Or.inl ⟨rfl, Or.inr rfl⟩)) ?_
      refine fr_ifcF (tg := 22) (pc := 6) dX12_node_6 rfl rfl ?_
      refine fr_iload_n (pc := 9) dX12_node_9 rfl rfl ?_
      refine fr_iconst (pc := 10) dX12_node_10 (by decide) ?_
      refine fr_iconst (pc := 11) dX12_node_11 (by decide) ?_
      refine fr_inSI (as := [(0, a2), (0, 0), (0, 4)]) (rest := [(2, 142)]) (ls' := [(0, a2), (0, 0), (0, 4)]) (c1 := 0) (c2 := 0) (pc := 12) dX12_node_12 pl_12_147 rfl ⟨Nat.le_of_ble_eq_true rfl, Nat.le_of_ble_eq_true rfl⟩ rfl rfl  (by omega) rfl rfl (pm_zc _) ?_ (fun y M' h => h)
      refine fr_iload_n (pc := 0) dX12_within_0 rfl rfl ?_
      refine fr_iload_n (pc := 1) dX12_within_1 rfl rfl ?_
      refine fr_icm_lt (tg := 14) (pc := 2) dX12_within_2 rfl hq (fun hc3 hq => ?_) (fun hc3 hq => ?_)
      · refine fr_iconst (pc := 14) dX12_within_14 (by decide) ?_
        refine fr_iret (pc := 15) dX12_within_15 (Or.inr (Or.inl ⟨rfl, Or.inl rfl⟩)) ?_
        refine fr_ifcT (tg := 22) (pc := 15) dX12_node_15 rfl rfl ?_
        refine fr_iconst (pc := 22) dX12_node_22 (by decide) ?_
        refine fr_put (a := 142) (i := 0) (pc := 23) dX12_node_23 rfl pf_12_121 rfl s0_142 rfl rfl nf_142_0 rfl ?_
        refine fr_aload_n (pc := 26) dX12_node_26 rfl rfl ?_
        refine fr_getf (a := 142) (i := 0) (v := 1) (t := 0) (pc := 27) dX12_node_27 rfl pf_12_121 rfl s0_142 rfl (gI_eq _ _ _ _) ?_
        refine fr_ifcF (tg := 35) (pc := 30) dX12_node_30 rfl rfl ?_
        refine fr_iconst (pc := 33) dX12_node_33 (by decide) ?_
        exact fr_iret (pc := 34) dX12_node_34 (Or.inl rfl) hq
      · refine fr_iload_n (pc := 5) dX12_within_5 rfl rfl ?_
        refine fr_iload_n (pc := 6) dX12_within_6 rfl rfl ?_
        refine fr_icm_gt (tg := 14) (pc := 7) dX12_within_7 rfl hq (fun hc4 hq => ?_) (fun hc4 hq => ?_)
        · refine fr_iconst (pc := 10) dX12_within_10 (by decide) ?_
          refine fr_goto (tg := 15) (pc := 11) dX12_within_11 rfl ?_
          refine fr_iret (pc := 15) dX12_within_15 (Or.inr (Or.inl ⟨rfl, Or.inr rfl⟩)) ?_
          refine fr_ifcF (tg := 22) (pc := 15) dX12_node_15 rfl rfl ?_
          refine fr_iconst (pc := 18) dX12_node_18 (by decide) ?_
          refine fr_goto (tg := 23) (pc := 19) dX12_node_19 rfl ?_
          refine fr_put (a := 142) (i := 0) (pc := 23) dX12_node_23 rfl pf_12_121 rfl s0_142 rfl rfl nf_142_0 rfl ?_
          refine fr_aload_n (pc := 26) dX12_node_26 rfl rfl ?_
          refine fr_getf (a := 142) (i := 0) (v := 0) (t := 0) (pc := 27) dX12_node_27 rfl pf_12_121 rfl s0_142 rfl (gI_eq _ _ _ _) ?_
          refine fr_ifcT (tg := 35) (pc := 30) dX12_node_30 rfl rfl ?_
          refine fr_iload_n (pc := 35) dX12_node_35 rfl rfl ?_
          refine pm_ite hq (fun hc5 hq => ?_) (fun hc5 hq => ?_)
          · refine fr_tabV (tg := 68) (off := 32) (v := 0) (pc := 36) dX12_node_36 hc5 (by decide) rfl rfl ?_
            refine fr_aload_n (pc := 68) dX12_node_68 rfl rfl ?_
            refine fr_getr (a := 142) (pc := 69) dX12_node_69 rfl pf_12_17 s0_142 rfl rf_142_10 ?_
            refine fr_iload_n (pc := 72) dX12_node_72 rfl rfl ?_
            obtain ⟨hb6, hq⟩ := hq
            refine fr_iaload (a := 145) (v := gI M 145 a1) (pc := 73) dX12_node_73 rfl s0_145 hb6 (gI_ne _ _ _ _ (by decide)) ?_
            exact fr_iret (pc := 74) dX12_node_74 (Or.inl rfl) hq
          · refine pm_ite hq (fun hc7 hq => ?_) (fun hc7 hq => ?_)
            · refine fr_tabV (tg := 75) (off := 39) (v := 1) (pc := 36) dX12_node_36 hc7 (by decide) rfl rfl ?_
              refine fr_aload_n (pc := 75) dX12_node_75 rfl rfl ?_
              refine fr_getr (a := 142) (pc := 76) dX12_node_76 rfl pf_12_17 s0_142 rfl rf_142_10 ?_
              refine fr_iload_n (pc := 79) dX12_node_79 rfl rfl ?_
              obtain ⟨hb8, hq⟩ := hq
              refine fr_iaload (a := 145) (v := gI M 145 a1) (pc := 80) dX12_node_80 rfl s0_145 hb8 (gI_ne _ _ _ _ (by decide)) ?_
              refine fr_bipush (pc := 81) dX12_node_81 (by decide) ?_
              refine fr_icm_eq (tg := 100) (pc := 83) dX12_node_83 rfl hq (fun hc9 hq => ?_) (fun hc9 hq => ?_)
              · refine fr_bipush (pc := 100) dX12_node_100 (by decide) ?_
                refine fr_goto (tg := 111) (pc := 102) dX12_node_102 rfl ?_
                exact fr_iret (pc := 111) dX12_node_111 (Or.inl rfl) hq
              · refine fr_aload_n (pc := 86) dX12_node_86 rfl rfl ?_
                refine fr_getr (a := 142) (pc := 87) dX12_node_87 rfl pf_12_17 s0_142 rfl rf_142_10 ?_
                refine fr_iload_n (pc := 90) dX12_node_90 rfl rfl ?_
                refine fr_iaload (a := 145) (v := gI M 145 a1) (pc := 91) dX12_node_91 rfl s0_145 hb8 (gI_ne _ _ _ _ (by decide)) ?_
                refine fr_iconst (pc := 92) dX12_node_92 (by decide) ?_
                refine fr_iconst (pc := 93) dX12_node_93 (by decide) ?_
                refine fr_inSI (as := [(0, gI M 145 a1), (0, 1), (0, 3)]) (rest := []) (ls' := [(0, gI M 145 a1), (0, 1), (0, 3)]) (c1 := 0) (c2 := 0) (pc := 94) dX12_node_94 pl_12_147 rfl ⟨Nat.le_of_ble_eq_true rfl, Nat.le_of_ble_eq_true rfl⟩ rfl rfl  (by omega) rfl rfl (pm_zc _) ?_ (fun y M' h => h)
                refine fr_iload_n (pc := 0) dX12_within_0 rfl rfl ?_
                refine fr_iload_n (pc := 1) dX12_within_1 rfl rfl ?_
                refine fr_icm_lt (tg := 14) (pc := 2) dX12_within_2 rfl hq (fun hc10 hq => ?_) (fun hc10 hq => ?_)
                · refine fr_iconst (pc := 14) dX12_within_14 (by decide) ?_
                  refine fr_iret (pc := 15) dX12_within_15 (Or.inr (Or.inl ⟨rfl, Or.inl rfl⟩)) ?_
                  refine fr_ifcT (tg := 105) (pc := 97) dX12_node_97 rfl rfl ?_
                  refine fr_aload_n (pc := 105) dX12_node_105 rfl rfl ?_
                  refine fr_getr (a := 142) (pc := 106) dX12_node_106 rfl pf_12_20 s0_142 rfl rf_142_11 ?_
                  refine fr_iload_n (pc := 109) dX12_node_109 rfl rfl ?_
                  refine fr_iaload (a := 146) (v := gI M 146 a1) (pc := 110) dX12_node_110 rfl s0_146 hb8 (gI_ne _ _ _ _ (by decide)) ?_
                  exact fr_iret (pc := 111) dX12_node_111 (Or.inl rfl) hq
                · refine fr_iload_n (pc := 5) dX12_within_5 rfl rfl ?_
                  refine fr_iload_n (pc := 6) dX12_within_6 rfl rfl ?_
                  refine fr_icm_gt (tg := 14) (pc := 7) dX12_within_7 rfl hq (fun hc11 hq => ?_) (fun hc11 hq => ?_)
                  · refine fr_iconst (pc := 10) dX12_within_10 (by decide) ?_
                    refine fr_goto (tg := 15) (pc := 11) dX12_within_11 rfl ?_
                    refine fr_iret (pc := 15) dX12_within_15 (Or.inr (Or.inl ⟨rfl, Or.inr rfl⟩)) ?_
                    refine fr_ifcF (tg := 105) (pc := 97) dX12_node_97 rfl rfl ?_
                    refine fr_bipush (pc := 100) dX12_node_100 (by decide) ?_
                    refine fr_goto (tg := 111) (pc := 102) dX12_node_102 rfl ?_
                    exact fr_iret (pc := 111) dX12_node_111 (Or.inl rfl) hq
                  · refine fr_iconst (pc := 14) dX12_within_14 (by decide) ?_
                    refine fr_iret (pc := 15) dX12_within_15 (Or.inr (Or.inl ⟨rfl, Or.inl rfl⟩)) ?_
                    refine fr_ifcT (tg := 105) (pc := 97) dX12_node_97 rfl rfl ?_
                    refine fr_aload_n (pc := 105) dX12_node_105 rfl rfl ?_
                    refine fr_getr (a := 142) (pc := 106) dX12_node_106 rfl pf_12_20 s0_142 rfl rf_142_11 ?_
                    refine fr_iload_n (pc := 109) dX12_node_109 rfl rfl ?_
                    refine fr_iaload (a := 146) (v := gI M 146 a1) (pc := 110) dX12_node_110 rfl s0_146 hb8 (gI_ne _ _ _ _ (by decide)) ?_
                    exact fr_iret (pc := 111) dX12_node_111 (Or.inl rfl) hq
            · refine pm_ite hq (fun hc12 hq => ?_) (fun hc12 hq => ?_)
              · refine fr_tabV (tg := 112) (off := 76) (v := 2) (pc := 36) dX12_node_36 hc12 (by decide) rfl rfl ?_
                refine fr_aload_n (pc := 112) dX12_node_112 rfl rfl ?_
                refine fr_getr (a := 142) (pc := 113) dX12_node_113 rfl pf_12_23 s0_142 rfl rf_142_12 ?_
                refine fr_iload_n (pc := 116) dX12_node_116 rfl rfl ?_
                obtain ⟨hb13, hq⟩ := hq
                refine fr_iaload (a := 147) (v := gI M 147 a1) (pc := 117) dX12_node_117 rfl s0_147 hb13 (gI_ne _ _ _ _ (by decide)) ?_
                exact fr_iret (pc := 118) dX12_node_118 (Or.inl rfl) hq
              · refine pm_ite hq (fun hc14 hq => ?_) (fun hc14 hq => ?_)
                · refine fr_tabV (tg := 119) (off := 83) (v := 3) (pc := 36) dX12_node_36 hc14 (by decide) rfl rfl ?_
                  refine fr_aload_n (pc := 119) dX12_node_119 rfl rfl ?_
                  refine fr_iload_n (pc := 120) dX12_node_120 rfl rfl ?_
                  refine fr_inVI (a := 142) (as := [(0, a1)]) (rest := []) (ls' := [(2, 142), (0, a1), (9, 0)]) (c1 := 0) (c2 := 0) (pc := 121) dX12_node_121 pl_12_311 rfl ⟨Nat.le_of_ble_eq_true rfl, Nat.le_of_ble_eq_true rfl⟩ rfl rfl rfl s0_142 (Nat.le_of_ble_eq_true rfl) (by omega) rfl rfl (pm_zc _) (hq sc _ (by omega)) (fun r16 M15 hq => ?_)
                  exact fr_iret (pc := 124) dX12_node_124 (Or.inl rfl) hq
                · refine fr_tableO (tg := 125) (pc := 36) dX12_node_36 (by omega) rfl ?_
                  refine fr_aload_n (pc := 125) dX12_node_125 rfl rfl ?_
                  refine fr_iload_n (pc := 126) dX12_node_126 rfl rfl ?_
                  refine fr_inVI (a := 142) (as := [(0, a1)]) (rest := []) (ls' := [(2, 142), (0, a1), (9, 0), (9, 0)]) (c1 := 0) (c2 := 0) (pc := 127) dX12_node_127 pl_12_314 rfl ⟨Nat.le_of_ble_eq_true rfl, Nat.le_of_ble_eq_true rfl⟩ rfl rfl rfl s0_142 (Nat.le_of_ble_eq_true rfl) (by omega) rfl rfl (pm_zc _) (hq sc _ (by omega)) (fun r18 M17 hq => ?_)
                  refine fr_ifc_eq (tg := 137) (pc := 130) dX12_node_130 rfl hq (fun hc19 hq => ?_) (fun hc19 hq => ?_)
                  · refine fr_aload_n (pc := 137) dX12_node_137 rfl rfl ?_
                    refine fr_getr (a := 142) (pc := 138) dX12_node_138 rfl pf_12_41 s0_142 rfl rf_142_23 ?_
                    refine fr_iload_n (pc := 141) dX12_node_141 rfl rfl ?_
                    obtain ⟨hb20, hq⟩ := hq
                    refine fr_iaload (a := 153) (v := gI M17 153 a1) (pc := 142) dX12_node_142 rfl s0_153 hb20 rfl ?_
                    refine fr_iconst (pc := 143) dX12_node_143 (by decide) ?_
                    refine fr_iand (z := pm_iand (gI M17 153 a1) 2) (pc := 144) dX12_node_144 rfl ?_
                    refine fr_ifc_le (tg := 152) (pc := 145) dX12_node_145 rfl hq (fun hc21 hq => ?_) (fun hc21 hq => ?_)
                    · refine fr_aload_n (pc := 152) dX12_node_152 rfl rfl ?_
                      refine fr_getr (a := 142) (pc := 153) dX12_node_153 rfl pf_12_41 s0_142 rfl rf_142_23 ?_
                      refine fr_iload_n (pc := 156) dX12_node_156 rfl rfl ?_
                      refine fr_iaload (a := 153) (v := gI M17 153 a1) (pc := 157) dX12_node_157 rfl s0_153 hb20 rfl ?_
                      refine fr_iconst (pc := 158) dX12_node_158 (by decide) ?_
                      refine fr_iand (z := pm_iand (gI M17 153 a1) 4) (pc := 159) dX12_node_159 rfl ?_
                      refine fr_ifc_le (tg := 167) (pc := 160) dX12_node_160 rfl hq (fun hc22 hq => ?_) (fun hc22 hq => ?_)
                      · refine fr_iconst (pc := 167) dX12_node_167 (by decide) ?_
                        exact fr_iret (pc := 168) dX12_node_168 (Or.inl rfl) hq
                      · refine fr_iconst (pc := 163) dX12_node_163 (by decide) ?_
                        refine fr_goto (tg := 168) (pc := 164) dX12_node_164 rfl ?_
                        exact fr_iret (pc := 168) dX12_node_168 (Or.inl rfl) hq
                    · refine fr_iconst (pc := 148) dX12_node_148 (by decide) ?_
                      refine fr_goto (tg := 168) (pc := 149) dX12_node_149 rfl ?_
                      exact fr_iret (pc := 168) dX12_node_168 (Or.inl rfl) hq
                  · refine fr_iconst (pc := 133) dX12_node_133 (by decide) ?_
                    refine fr_goto (tg := 168) (pc := 134) dX12_node_134 rfl ?_
                    exact fr_iret (pc := 168) dX12_node_168 (Or.inl rfl) hq
        · refine fr_iconst (pc := 14) dX12_within_14 (by decide) ?_
          refine fr_iret (pc := 15) dX12_within_15 (Or.inr (Or.inl ⟨rfl, Or.inl rfl⟩)) ?_
          refine fr_ifcT (tg := 22) (pc := 15) dX12_node_15 rfl rfl ?_
          refine fr_iconst (pc := 22) dX12_node_22 (by decide) ?_
          refine fr_put (a := 142) (i := 0) (pc := 23) dX12_node_23 rfl pf_12_121 rfl s0_142 rfl rfl nf_142_0 rfl ?_
          refine fr_aload_n (pc := 26) dX12_node_26 rfl rfl ?_
          refine fr_getf (a := 142) (i := 0) (v := 1) (t := 0) (pc := 27) dX12_node_27 rfl pf_12_121 rfl s0_142 rfl (gI_eq _ _ _ _) ?_
          refine fr_ifcF (tg := 35) (pc := 30) dX12_node_30 rfl rfl ?_
          refine fr_iconst (pc := 33) dX12_node_33 (by decide) ?_
          exact fr_iret (pc := 34) dX12_node_34 (Or.inl rfl) hq
    · refine fr_iconst (pc := 14) dX12_within_14 (by decide) ?_
      refine fr_iret (pc := 15) dX12_within_15 (Or.inr (Or.inl ⟨rfl, Or.inl rfl⟩)) ?_
      refine fr_iret (pc := 13) dX12_isNode_13 (Or.inr (Or.inl ⟨rfl, Or.inl rfl⟩)) ?_
      refine fr_ifcT (tg := 22) (pc := 6) dX12_node_6 rfl rfl ?_
      refine fr_iconst (pc := 22) dX12_node_22 (by decide) ?_
      refine fr_put (a := 142) (i := 0) (pc := 23) dX12_node_23 rfl pf_12_121 rfl s0_142 rfl rfl nf_142_0 rfl ?_
      refine fr_aload_n (pc := 26) dX12_node_26 rfl rfl ?_
      refine fr_getf (a := 142) (i := 0) (v := 1) (t := 0) (pc := 27) dX12_node_27 rfl pf_12_121 rfl s0_142 rfl (gI_eq _ _ _ _) ?_
      refine fr_ifcF (tg := 35) (pc := 30) dX12_node_30 rfl rfl ?_
      refine fr_iconst (pc := 33) dX12_node_33 (by decide) ?_
      exact fr_iret (pc := 34) dX12_node_34 (Or.inl rfl) hq
theorem k12_statementOf_r {a1 : Int} {M : pm_M} {K : Int → pm_M → Prop} (hq : k12_statementOf_2 a1 M K) : k12_statementOf a1 M K := by
  intro sc d hd
  refine fr_iload_n (pc := 0) dX12_statementOf_0 rfl rfl ?_
  refine fr_istore_n (ls2 := [(2, 142), (0, a1), (0, a1)]) (pc := 1) dX12_statementOf_1 rfl (Nat.le_of_ble_eq_true rfl) rfl ?_
  exact hq sc d hd (0, a1) pm_t0
theorem k12_statementOf_2_r {l2 : Int} {M : pm_M} {K : Int → pm_M → Prop} (hq : ((0 ≤ l2 ∧ l2 < 800) ∧ (if gI M 145 l2 ≤ 3 then K l2 M else k12_statementOf_2 (gI M 147 l2) M K))) : k12_statementOf_2 l2 M K := by
  intro sc d hd z1 hz1
  refine fr_aload_n (pc := 2) dX12_statementOf_2 rfl rfl ?_
  refine fr_getr (a := 142) (pc := 3) dX12_statementOf_3 rfl pf_12_17 s0_142 rfl rf_142_10 ?_
  refine fr_iload_n (pc := 6) dX12_statementOf_6 rfl rfl ?_
  obtain ⟨hb1, hq⟩ := hq
  refine fr_iaload (a := 145) (v := gI M 145 l2) (pc := 7) dX12_statementOf_7 rfl s0_145 hb1 rfl ?_
  refine fr_iconst (pc := 8) dX12_statementOf_8 (by decide) ?_
  refine fr_icm_le (tg := 22) (pc := 9) dX12_statementOf_9 rfl hq (fun hc2 hq => ?_) (fun hc2 hq => ?_)
  · refine fr_iload_n (pc := 22) dX12_statementOf_22 rfl rfl ?_
    exact fr_iret (pc := 23) dX12_statementOf_23 (Or.inl rfl) hq
  · refine fr_aload_n (pc := 12) dX12_statementOf_12 rfl rfl ?_
    refine fr_getr (a := 142) (pc := 13) dX12_statementOf_13 rfl pf_12_23 s0_142 rfl rf_142_12 ?_
    refine fr_iload_n (pc := 16) dX12_statementOf_16 rfl rfl ?_
    refine fr_iaload (a := 147) (v := gI M 147 l2) (pc := 17) dX12_statementOf_17 rfl s0_147 hb1 rfl ?_
    refine fr_istore_n (ls2 := [(2, 142), z1, (0, gI M 147 l2)]) (pc := 18) dX12_statementOf_18 rfl (Nat.le_of_ble_eq_true rfl) (pm_st1z hz1 rfl rfl) ?_
    refine fr_goto (tg := 2) (pc := 19) dX12_statementOf_19 rfl ?_
    exact hq sc d hd z1 hz1
theorem k12_isGone_r {a1 : Int} {M : pm_M} {K : Int → pm_M → Prop} (hq : ((0 ≤ a1 ∧ a1 < 60) ∧ (if pm_iand (gI M 153 a1) 1 ≤ 0 then k12_isGone_13 0 (gI M 147 a1) M K else k12_isGone_13 1 (gI M 147 a1) M K))) : k12_isGone a1 M K := by
  intro sc d hd
  refine fr_aload_n (pc := 0) dX12_isGone_0 rfl rfl ?_
  refine fr_iload_n (pc := 1) dX12_isGone_1 rfl rfl ?_
  refine fr_inVI (a := 142) (as := [(0, a1)]) (rest := []) (ls' := [(2, 142), (0, a1)]) (c1 := 0) (c2 := 0) (pc := 2) dX12_isGone_2 pl_12_252 rfl ⟨Nat.le_of_ble_eq_true rfl, Nat.le_of_ble_eq_true rfl⟩ rfl rfl rfl s0_142 (Nat.le_of_ble_eq_true rfl) (by omega) rfl rfl (pm_zc _) ?_ (fun y M' h => h)
  refine fr_aload_n (pc := 0) dX12_isOut_0 rfl rfl ?_
  refine fr_getr (a := 142) (pc := 1) dX12_isOut_1 rfl pf_12_41 s0_142 rfl rf_142_23 ?_
  refine fr_iload_n (pc := 4) dX12_isOut_4 rfl rfl ?_
  obtain ⟨hb1, hq⟩ := hq
  refine fr_iaload (a := 153) (v := gI M 153 a1) (pc := 5) dX12_isOut_5 rfl s0_153 hb1 rfl ?_
  refine fr_iconst (pc := 6) dX12_isOut_6 (by decide) ?_
  refine fr_iand (z := pm_iand (gI M 153 a1) 1) (pc := 7) dX12_isOut_7 rfl ?_
  refine fr_ifc_le (tg := 15) (pc := 8) dX12_isOut_8 rfl hq (fun hc2 hq => ?_) (fun hc2 hq => ?_)
  · refine fr_iconst (pc := 15) dX12_isOut_15 (by decide) ?_
    refine fr_iret (pc := 16) dX12_isOut_16 (Or.inr (Or.inl ⟨rfl, Or.inl rfl⟩)) ?_
    refine fr_istore_n (ls2 := [(2, 142), (0, a1), (0, 0), (9, 0)]) (pc := 5) dX12_isGone_5 rfl (Nat.le_of_ble_eq_true rfl) rfl ?_
    refine fr_aload_n (pc := 6) dX12_isGone_6 rfl rfl ?_
    refine fr_getr (a := 142) (pc := 7) dX12_isGone_7 rfl pf_12_23 s0_142 rfl rf_142_12 ?_
    refine fr_iload_n (pc := 10) dX12_isGone_10 rfl rfl ?_
    refine fr_iaload (a := 147) (v := gI M 147 a1) (pc := 11) dX12_isGone_11 rfl s0_147 ⟨hb1.1, by omega⟩ rfl ?_
    refine fr_istore_n (ls2 := [(2, 142), (0, a1), (0, 0), (0, gI M 147 a1)]) (pc := 12) dX12_isGone_12 rfl (Nat.le_of_ble_eq_true rfl) rfl ?_
    exact hq sc d hd (0, a1) pm_t0
  · refine fr_iconst (pc := 11) dX12_isOut_11 (by decide) ?_
    refine fr_goto (tg := 16) (pc := 12) dX12_isOut_12 rfl ?_
    refine fr_iret (pc := 16) dX12_isOut_16 (Or.inr (Or.inl ⟨rfl, Or.inr rfl⟩)) ?_
    refine fr_istore_n (ls2 := [(2, 142), (0, a1), (0, 1), (9, 0)]) (pc := 5) dX12_isGone_5 rfl (Nat.le_of_ble_eq_true rfl) rfl ?_
    refine fr_aload_n (pc := 6) dX12_isGone_6 rfl rfl ?_
    refine fr_getr (a := 142) (pc := 7) dX12_isGone_7 rfl pf_12_23 s0_142 rfl rf_142_12 ?_
    refine fr_iload_n (pc := 10) dX12_isGone_10 rfl rfl ?_
    refine fr_iaload (a := 147) (v := gI M 147 a1) (pc := 11) dX12_isGone_11 rfl s0_147 ⟨hb1.1, by omega⟩ rfl ?_
    refine fr_istore_n (ls2 := [(2, 142), (0, a1), (0, 1), (0, gI M 147 a1)]) (pc := 12) dX12_isGone_12 rfl (Nat.le_of_ble_eq_true rfl) rfl ?_
    exact hq sc d hd (0, a1) pm_t0
theorem k12_isGone_13_r {l2 l3 : Int} {M : pm_M} {K : Int → pm_M → Prop} (hq : (if l3 = (-1) then ((l2 = 0 ∨ l2 = 1) ∧ K l2 M) else (if l2 = 0 then ((0 ≤ l3 ∧ l3 < 800) ∧ (if gI M 145 l3 ≤ 3 then ((0 ≤ l3 ∧ l3 < 60) ∧ (if pm_iand (gI M 153 l3) 1 ≤ 0 then k12_isGone_13 0 (gI M 147 l3) M K else k12_isGone_13 1 (gI M 147 l3) M K)) else k12_isGone_13 0 (gI M 147 l3) M K)) else ((0 ≤ l3 ∧ l3 < 800) ∧ k12_isGone_13 1 (gI M 147 l3) M K)))) : k12_isGone_13 l2 l3 M K := by
  intro sc d hd z1 hz1
  refine fr_iload_n (pc := 13) dX12_isGone_13 rfl rfl ?_
  refine fr_iconst (pc := 14) dX12_isGone_14 (by decide) ?_
  refine fr_icm_eq (tg := 56) (pc := 15) dX12_isGone_15 rfl hq (fun hc1 hq => ?_) (fun hc1 hq => ?_)
  · refine fr_iload_n (pc := 56) dX12_isGone_56 rfl rfl ?_
    obtain ⟨hz2, hq⟩ := hq
    exact fr_iret (pc := 57) dX12_isGone_57 (Or.inr (Or.inl ⟨rfl, hz2⟩)) hq
  · refine fr_iload_n (pc := 18) dX12_isGone_18 rfl rfl ?_
    refine fr_ifc_ne (tg := 40) (pc := 19) dX12_isGone_19 rfl hq (fun hc3 hq => ?_) (fun hc3 hq => ?_)
    · refine fr_aload_n (pc := 22) dX12_isGone_22 rfl rfl ?_
      refine fr_getr (a := 142) (pc := 23) dX12_isGone_23 rfl pf_12_17 s0_142 rfl rf_142_10 ?_
      refine fr_iload_n (pc := 26) dX12_isGone_26 rfl rfl ?_
      obtain ⟨hb4, hq⟩ := hq
      refine fr_iaload (a := 145) (v := gI M 145 l3) (pc := 27) dX12_isGone_27 rfl s0_145 hb4 rfl ?_
      refine fr_iconst (pc := 28) dX12_isGone_28 (by decide) ?_
      refine fr_icm_gt (tg := 44) (pc := 29) dX12_isGone_29 rfl hq (fun hc5 hq => ?_) (fun hc5 hq => ?_)
      · refine fr_aload_n (pc := 32) dX12_isGone_32 rfl rfl ?_
        refine fr_iload_n (pc := 33) dX12_isGone_33 rfl rfl ?_
        refine fr_inVI (a := 142) (as := [(0, l3)]) (rest := []) (ls' := [(2, 142), (0, l3)]) (c1 := 0) (c2 := 0) (pc := 34) dX12_isGone_34 pl_12_252 rfl ⟨Nat.le_of_ble_eq_true rfl, Nat.le_of_ble_eq_true rfl⟩ rfl rfl rfl s0_142 (Nat.le_of_ble_eq_true rfl) (by omega) rfl rfl (pm_zc _) ?_ (fun y M' h => h)
        refine fr_aload_n (pc := 0) dX12_isOut_0 rfl rfl ?_
        refine fr_getr (a := 142) (pc := 1) dX12_isOut_1 rfl pf_12_41 s0_142 rfl rf_142_23 ?_
        refine fr_iload_n (pc := 4) dX12_isOut_4 rfl rfl ?_
        obtain ⟨hb6, hq⟩ := hq
        refine fr_iaload (a := 153) (v := gI M 153 l3) (pc := 5) dX12_isOut_5 rfl s0_153 hb6 rfl ?_
        refine fr_iconst (pc := 6) dX12_isOut_6 (by decide) ?_
        refine fr_iand (z := pm_iand (gI M 153 l3) 1) (pc := 7) dX12_isOut_7 rfl ?_
        refine fr_ifc_le (tg := 15) (pc := 8) dX12_isOut_8 rfl hq (fun hc7 hq => ?_) (fun hc7 hq => ?_)
        · refine fr_iconst (pc := 15) dX12_isOut_15 (by decide) ?_
          refine fr_iret (pc := 16) dX12_isOut_16 (Or.inr (Or.inl ⟨rfl, Or.inl rfl⟩)) ?_
          refine fr_ifcT (tg := 44) (pc := 37) dX12_isGone_37 rfl rfl ?_
          refine fr_iconst (pc := 44) dX12_isGone_44 (by decide) ?_
          refine fr_istore_n (ls2 := [(2, 142), z1, (0, 0), (0, l3)]) (pc := 45) dX12_isGone_45 rfl (Nat.le_of_ble_eq_true rfl) (pm_st1z hz1 rfl rfl) ?_
          refine fr_aload_n (pc := 46) dX12_isGone_46 rfl rfl ?_
          refine fr_getr (a := 142) (pc := 47) dX12_isGone_47 rfl pf_12_23 s0_142 rfl rf_142_12 ?_
          refine fr_iload_n (pc := 50) dX12_isGone_50 rfl rfl ?_
          refine fr_iaload (a := 147) (v := gI M 147 l3) (pc := 51) dX12_isGone_51 rfl s0_147 ⟨hb6.1, by omega⟩ rfl ?_
          refine fr_istore_n (ls2 := [(2, 142), z1, (0, 0), (0, gI M 147 l3)]) (pc := 52) dX12_isGone_52 rfl (Nat.le_of_ble_eq_true rfl) rfl ?_
          refine fr_goto (tg := 13) (pc := 53) dX12_isGone_53 rfl ?_
          exact hq sc d hd z1 hz1
        · refine fr_iconst (pc := 11) dX12_isOut_11 (by decide) ?_
          refine fr_goto (tg := 16) (pc := 12) dX12_isOut_12 rfl ?_
          refine fr_iret (pc := 16) dX12_isOut_16 (Or.inr (Or.inl ⟨rfl, Or.inr rfl⟩)) ?_
          refine fr_ifcF (tg := 44) (pc := 37) dX12_isGone_37 rfl rfl ?_
          refine fr_iconst (pc := 40) dX12_isGone_40 (by decide) ?_
          refine fr_goto (tg := 45) (pc := 41) dX12_isGone_41 rfl ?_
          refine fr_istore_n (ls2 := [(2, 142), z1, (0, 1), (0, l3)]) (pc := 45) dX12_isGone_45 rfl (Nat.le_of_ble_eq_true rfl) (pm_st1z hz1 rfl rfl) ?_
          refine fr_aload_n (pc := 46) dX12_isGone_46 rfl rfl ?_
          refine fr_getr (a := 142) (pc := 47) dX12_isGone_47 rfl pf_12_23 s0_142 rfl rf_142_12 ?_
          refine fr_iload_n (pc := 50) dX12_isGone_50 rfl rfl ?_
          refine fr_iaload (a := 147) (v := gI M 147 l3) (pc := 51) dX12_isGone_51 rfl s0_147 ⟨hb6.1, by omega⟩ rfl ?_
          refine fr_istore_n (ls2 := [(2, 142), z1, (0, 1), (0, gI M 147 l3)]) (pc := 52) dX12_isGone_52 rfl (Nat.le_of_ble_eq_true rfl) rfl ?_
          refine fr_goto (tg := 13) (pc := 53) dX12_isGone_53 rfl ?_
          exact hq sc d hd z1 hz1
      · refine fr_iconst (pc := 44) dX12_isGone_44 (by decide) ?_
        refine fr_istore_n (ls2 := [(2, 142), z1, (0, 0), (0, l3)]) (pc := 45) dX12_isGone_45 rfl (Nat.le_of_ble_eq_true rfl) (pm_st1z hz1 rfl rfl) ?_
        refine fr_aload_n (pc := 46) dX12_isGone_46 rfl rfl ?_
        refine fr_getr (a := 142) (pc := 47) dX12_isGone_47 rfl pf_12_23 s0_142 rfl rf_142_12 ?_
        refine fr_iload_n (pc := 50) dX12_isGone_50 rfl rfl ?_
        refine fr_iaload (a := 147) (v := gI M 147 l3) (pc := 51) dX12_isGone_51 rfl s0_147 hb4 rfl ?_
        refine fr_istore_n (ls2 := [(2, 142), z1, (0, 0), (0, gI M 147 l3)]) (pc := 52) dX12_isGone_52 rfl (Nat.le_of_ble_eq_true rfl) rfl ?_
        refine fr_goto (tg := 13) (pc := 53) dX12_isGone_53 rfl ?_
        exact hq sc d hd z1 hz1
    · refine fr_iconst (pc := 40) dX12_isGone_40 (by decide) ?_
      refine fr_goto (tg := 45) (pc := 41) dX12_isGone_41 rfl ?_
      refine fr_istore_n (ls2 := [(2, 142), z1, (0, 1), (0, l3)]) (pc := 45) dX12_isGone_45 rfl (Nat.le_of_ble_eq_true rfl) (pm_st1z hz1 rfl rfl) ?_
      refine fr_aload_n (pc := 46) dX12_isGone_46 rfl rfl ?_
      refine fr_getr (a := 142) (pc := 47) dX12_isGone_47 rfl pf_12_23 s0_142 rfl rf_142_12 ?_
      refine fr_iload_n (pc := 50) dX12_isGone_50 rfl rfl ?_
      obtain ⟨hb8, hq⟩ := hq
      refine fr_iaload (a := 147) (v := gI M 147 l3) (pc := 51) dX12_isGone_51 rfl s0_147 hb8 rfl ?_
      refine fr_istore_n (ls2 := [(2, 142), z1, (0, 1), (0, gI M 147 l3)]) (pc := 52) dX12_isGone_52 rfl (Nat.le_of_ble_eq_true rfl) rfl ?_
      refine fr_goto (tg := 13) (pc := 53) dX12_isGone_53 rfl ?_
      exact hq sc d hd z1 hz1
theorem k12_spectrum_r {a1 a2 : Int} {M : pm_M} {K : Int → pm_M → Prop} (hq : (if a1 < 0 then K (-1) (upI M 142 0 0) else (if a1 ≤ w32 ((gI M 144 0) - 1) then ((0 ≤ a1 ∧ a1 < 800) ∧ (if gI M 145 a1 ≤ 3 then (if a2 < 0 then K (-1) (upI M 142 0 0) else (if a2 ≤ 3 then k12_laysSpectra (upI M 142 0 0) (fun M7 => (if a2 = 0 then ((0 ≤ a1 ∧ a1 < 60) ∧ K (gI M7 159 a1) M7) else (if a2 = 1 then ((0 ≤ a1 ∧ a1 < 60) ∧ K (gI M7 160 a1) M7) else (if a2 = 2 then ((0 ≤ a1 ∧ a1 < 60) ∧ K (w32 ((gI M7 142 40) - (gI M7 159 a1))) M7) else ((0 ≤ a1 ∧ a1 < 60) ∧ K (w32 ((gI M7 142 41) - (gI M7 160 a1))) M7))))) else K (-1) (upI M 142 0 0))) else K (-1) (upI M 142 0 0))) else K (-1) (upI M 142 0 0)))) : k12_spectrum a1 a2 M K := by
  intro sc d hd
  refine fr_aload_n (pc := 0) dX12_spectrum_0 rfl rfl ?_
  refine fr_iconst (pc := 1) dX12_spectrum_1 (by decide) ?_
  refine fr_put (a := 142) (i := 0) (pc := 2) dX12_spectrum_2 rfl pf_12_121 rfl s0_142 rfl rfl nf_142_0 rfl ?_
  refine fr_aload_n (pc := 5) dX12_spectrum_5 rfl rfl ?_
  refine fr_iload_n (pc := 6) dX12_spectrum_6 rfl rfl ?_
  refine fr_inVI (a := 142) (as := [(0, a1)]) (rest := []) (ls' := [(2, 142), (0, a1)]) (c1 := 0) (c2 := 0) (pc := 7) dX12_spectrum_7 pl_12_308 rfl ⟨Nat.le_of_ble_eq_true rfl, Nat.le_of_ble_eq_true rfl⟩ rfl rfl rfl s0_142 (Nat.le_of_ble_eq_true rfl) (by omega) rfl rfl (pm_zc _) ?_ (fun y M' h => h)
  refine fr_aload_n (pc := 0) dX12_isStatement_0 rfl rfl ?_
  refine fr_iload_n (pc := 1) dX12_isStatement_1 rfl rfl ?_
  refine fr_inVI (a := 142) (as := [(0, a1)]) (rest := []) (ls' := [(2, 142), (0, a1)]) (c1 := 0) (c2 := 0) (pc := 2) dX12_isStatement_2 pl_12_305 rfl ⟨Nat.le_of_ble_eq_true rfl, Nat.le_of_ble_eq_true rfl⟩ rfl rfl rfl s0_142 (Nat.le_of_ble_eq_true rfl) (by omega) rfl rfl (pm_zc _) ?_ (fun y M' h => h)
  refine fr_iload_n (pc := 0) dX12_isNode_0 rfl rfl ?_
  refine fr_iconst (pc := 1) dX12_isNode_1 (by decide) ?_
  refine fr_aload_n (pc := 2) dX12_isNode_2 rfl rfl ?_
  refine fr_getr (a := 142) (pc := 3) dX12_isNode_3 rfl pf_12_13 s0_142 rfl rf_142_9 ?_
  refine fr_iconst (pc := 6) dX12_isNode_6 (by decide) ?_
  refine fr_iaload (a := 144) (v := gI M 144 0) (pc := 7) dX12_isNode_7 rfl s0_144 (by decide) (gI_ne _ _ _ _ (by decide)) ?_
  refine fr_iconst (pc := 8) dX12_isNode_8 (by decide) ?_
  refine fr_isub (z := w32 ((gI M 144 0) - 1)) (pc := 9) dX12_isNode_9 rfl ?_
  refine fr_inSI (as := [(0, a1), (0, 0), (0, w32 ((gI M 144 0) - 1))]) (rest := []) (ls' := [(0, a1), (0, 0), (0, w32 ((gI M 144 0) - 1))]) (c1 := 0) (c2 := 0) (pc := 10) dX12_isNode_10 pl_12_147 rfl ⟨Nat.le_of_ble_eq_true rfl, Nat.le_of_ble_eq_true rfl⟩ rfl rfl  (by omega) rfl rfl (pm_zc _) ?_ (fun y M' h => h)
  refine fr_iload_n (pc := 0) dX12_within_0 rfl rfl ?_
  refine fr_iload_n (pc := 1) dX12_within_1 rfl rfl ?_
  refine fr_icm_lt (tg := 14) (pc := 2) dX12_within_2 rfl hq (fun hc1 hq => ?_) (fun hc1 hq => ?_)
  · refine fr_iconst (pc := 14) dX12_within_14 (by decide) ?_
    refine fr_iret (pc := 15) dX12_within_15 (Or.inr (Or.inl ⟨rfl, Or.inl rfl⟩)) ?_
    refine fr_iret (pc := 13) dX12_isNode_13 (Or.inr (Or.inl ⟨rfl, Or.inl rfl⟩)) ?_
    refine fr_ifcT (tg := 22) (pc := 5) dX12_isStatement_5 rfl rfl ?_
    refine fr_iconst (pc := 22) dX12_isStatement_22 (by decide) ?_
    refine fr_iret (pc := 23) dX12_isStatement_23 (Or.inr (Or.inl ⟨rfl, Or.inl rfl⟩)) ?_
    refine fr_ifcT (tg := 22) (pc := 10) dX12_spectrum_10 rfl rfl ?_
    refine fr_iconst (pc := 22) dX12_spectrum_22 (by decide) ?_
    exact fr_iret (pc := 23) dX12_spectrum_23 (Or.inl rfl) hq
  · refine fr_iload_n (pc := 5) dX12_within_5 rfl rfl ?_
    refine fr_iload_n (pc := 6) dX12_within_6 rfl rfl ?_
    refine fr_icm_gt (tg := 14) (pc := 7) dX12_within_7 rfl hq (fun hc2 hq => ?_) (fun hc2 hq => ?_)
    · refine fr_iconst (pc := 10) dX12_within_10 (by decide) ?_
      refine fr_goto (tg := 15) (pc := 11) dX12_within_11 rfl ?_
      refine fr_iret (pc := 15) dX12_within_15 (Or.inr (Or.inl ⟨rfl, Or.inr rfl⟩)) ?_
      refine fr_iret (pc := 13) dX12_isNode_13 (Or.inr (Or.inl ⟨rfl, Or.inr rfl⟩)) ?_
      refine fr_ifcF (tg := 22) (pc := 5) dX12_isStatement_5 rfl rfl ?_
      refine fr_aload_n (pc := 8) dX12_isStatement_8 rfl rfl ?_
      refine fr_getr (a := 142) (pc := 9) dX12_isStatement_9 rfl pf_12_17 s0_142 rfl rf_142_10 ?_
      refine fr_iload_n (pc := 12) dX12_isStatement_12 rfl rfl ?_
      obtain ⟨hb3, hq⟩ := hq
      refine fr_iaload (a := 145) (v := gI M 145 a1) (pc := 13) dX12_isStatement_13 rfl s0_145 hb3 (gI_ne _ _ _ _ (by decide)) ?_
      refine fr_iconst (pc := 14) dX12_isStatement_14 (by decide) ?_
      refine fr_icm_gt (tg := 22) (pc := 15) dX12_isStatement_15 rfl hq (fun hc4 hq => ?_) (fun hc4 hq => ?_)
      · refine fr_iconst (pc := 18) dX12_isStatement_18 (by decide) ?_
        refine fr_goto (tg := 23) (pc := 19) dX12_isStatement_19 rfl ?_
        refine fr_iret (pc := 23) dX12_isStatement_23 (Or.inr (Or.inl ⟨rfl, Or.inr rfl⟩)) ?_
        refine fr_ifcF (tg := 22) (pc := 10) dX12_spectrum_10 rfl rfl ?_
        refine fr_iload_n (pc := 13) dX12_spectrum_13 rfl rfl ?_
        refine fr_iconst (pc := 14) dX12_spectrum_14 (by decide) ?_
        refine fr_iconst (pc := 15) dX12_spectrum_15 (by decide) ?_
        refine fr_inSI (as := [(0, a2), (0, 0), (0, 3)]) (rest := []) (ls' := [(0, a2), (0, 0), (0, 3)]) (c1 := 0) (c2 := 0) (pc := 16) dX12_spectrum_16 pl_12_147 rfl ⟨Nat.le_of_ble_eq_true rfl, Nat.le_of_ble_eq_true rfl⟩ rfl rfl  (by omega) rfl rfl (pm_zc _) ?_ (fun y M' h => h)
        refine fr_iload_n (pc := 0) dX12_within_0 rfl rfl ?_
        refine fr_iload_n (pc := 1) dX12_within_1 rfl rfl ?_
        refine fr_icm_lt (tg := 14) (pc := 2) dX12_within_2 rfl hq (fun hc5 hq => ?_) (fun hc5 hq => ?_)
        · refine fr_iconst (pc := 14) dX12_within_14 (by decide) ?_
          refine fr_iret (pc := 15) dX12_within_15 (Or.inr (Or.inl ⟨rfl, Or.inl rfl⟩)) ?_
          refine fr_ifcF (tg := 24) (pc := 19) dX12_spectrum_19 rfl rfl ?_
          refine fr_iconst (pc := 22) dX12_spectrum_22 (by decide) ?_
          exact fr_iret (pc := 23) dX12_spectrum_23 (Or.inl rfl) hq
        · refine fr_iload_n (pc := 5) dX12_within_5 rfl rfl ?_
          refine fr_iload_n (pc := 6) dX12_within_6 rfl rfl ?_
          refine fr_icm_gt (tg := 14) (pc := 7) dX12_within_7 rfl hq (fun hc6 hq => ?_) (fun hc6 hq => ?_)
          · refine fr_iconst (pc := 10) dX12_within_10 (by decide) ?_
            refine fr_goto (tg := 15) (pc := 11) dX12_within_11 rfl ?_
            refine fr_iret (pc := 15) dX12_within_15 (Or.inr (Or.inl ⟨rfl, Or.inr rfl⟩)) ?_
            refine fr_ifcT (tg := 24) (pc := 19) dX12_spectrum_19 rfl rfl ?_
            refine fr_aload_n (pc := 24) dX12_spectrum_24 rfl rfl ?_
            refine fr_inVV (a := 142) (as := []) (rest := []) (ls' := [(2, 142), (9, 0), (9, 0), (9, 0)]) (c1 := 0) (c2 := 0) (pc := 25) dX12_spectrum_25 pl_12_326 rfl ⟨Nat.le_of_ble_eq_true rfl, Nat.le_of_ble_eq_true rfl⟩ rfl rfl rfl s0_142 (Nat.le_of_ble_eq_true rfl) (by omega) rfl rfl (pm_zc _) (hq sc _ (by omega)) (fun M7 hq => ?_)
            refine fr_iload_n (pc := 28) dX12_spectrum_28 rfl rfl ?_
            refine pm_ite hq (fun hc9 hq => ?_) (fun hc9 hq => ?_)
            · refine fr_tabV (tg := 56) (off := 27) (v := 0) (pc := 29) dX12_spectrum_29 hc9 (by decide) rfl rfl ?_
              refine fr_aload_n (pc := 56) dX12_spectrum_56 rfl rfl ?_
              refine fr_getr (a := 142) (pc := 57) dX12_spectrum_57 rfl pf_12_66 s0_142 rfl rf_142_38 ?_
              refine fr_iload_n (pc := 60) dX12_spectrum_60 rfl rfl ?_
              obtain ⟨hb10, hq⟩ := hq
              refine fr_iaload (a := 159) (v := gI M7 159 a1) (pc := 61) dX12_spectrum_61 rfl s0_159 hb10 rfl ?_
              exact fr_iret (pc := 62) dX12_spectrum_62 (Or.inl rfl) hq
            · refine pm_ite hq (fun hc11 hq => ?_) (fun hc11 hq => ?_)
              · refine fr_tabV (tg := 63) (off := 34) (v := 1) (pc := 29) dX12_spectrum_29 hc11 (by decide) rfl rfl ?_
                refine fr_aload_n (pc := 63) dX12_spectrum_63 rfl rfl ?_
                refine fr_getr (a := 142) (pc := 64) dX12_spectrum_64 rfl pf_12_69 s0_142 rfl rf_142_39 ?_
                refine fr_iload_n (pc := 67) dX12_spectrum_67 rfl rfl ?_
                obtain ⟨hb12, hq⟩ := hq
                refine fr_iaload (a := 160) (v := gI M7 160 a1) (pc := 68) dX12_spectrum_68 rfl s0_160 hb12 rfl ?_
                exact fr_iret (pc := 69) dX12_spectrum_69 (Or.inl rfl) hq
              · refine pm_ite hq (fun hc13 hq => ?_) (fun hc13 hq => ?_)
                · refine fr_tabV (tg := 70) (off := 41) (v := 2) (pc := 29) dX12_spectrum_29 hc13 (by decide) rfl rfl ?_
                  refine fr_aload_n (pc := 70) dX12_spectrum_70 rfl rfl ?_
                  refine fr_getf (a := 142) (i := 40) (v := gI M7 142 40) (t := 0) (pc := 71) dX12_spectrum_71 rfl pf_12_317 rfl s0_142 rfl rfl ?_
                  refine fr_aload_n (pc := 74) dX12_spectrum_74 rfl rfl ?_
                  refine fr_getr (a := 142) (pc := 75) dX12_spectrum_75 rfl pf_12_66 s0_142 rfl rf_142_38 ?_
                  refine fr_iload_n (pc := 78) dX12_spectrum_78 rfl rfl ?_
                  obtain ⟨hb14, hq⟩ := hq
                  refine fr_iaload (a := 159) (v := gI M7 159 a1) (pc := 79) dX12_spectrum_79 rfl s0_159 hb14 rfl ?_
                  refine fr_isub (z := w32 ((gI M7 142 40) - (gI M7 159 a1))) (pc := 80) dX12_spectrum_80 rfl ?_
                  exact fr_iret (pc := 81) dX12_spectrum_81 (Or.inl rfl) hq
                · refine fr_tableO (tg := 82) (pc := 29) dX12_spectrum_29 (by omega) rfl ?_
                  refine fr_aload_n (pc := 82) dX12_spectrum_82 rfl rfl ?_
                  refine fr_getf (a := 142) (i := 41) (v := gI M7 142 41) (t := 0) (pc := 83) dX12_spectrum_83 rfl pf_12_320 rfl s0_142 rfl rfl ?_
                  refine fr_aload_n (pc := 86) dX12_spectrum_86 rfl rfl ?_
                  refine fr_getr (a := 142) (pc := 87) dX12_spectrum_87 rfl pf_12_69 s0_142 rfl rf_142_39 ?_
                  refine fr_iload_n (pc := 90) dX12_spectrum_90 rfl rfl ?_
                  obtain ⟨hb15, hq⟩ := hq
                  refine fr_iaload (a := 160) (v := gI M7 160 a1) (pc := 91) dX12_spectrum_91 rfl s0_160 hb15 rfl ?_
                  refine fr_isub (z := w32 ((gI M7 142 41) - (gI M7 160 a1))) (pc := 92) dX12_spectrum_92 rfl ?_
                  exact fr_iret (pc := 93) dX12_spectrum_93 (Or.inl rfl) hq
          · refine fr_iconst (pc := 14) dX12_within_14 (by decide) ?_
            refine fr_iret (pc := 15) dX12_within_15 (Or.inr (Or.inl ⟨rfl, Or.inl rfl⟩)) ?_
            refine fr_ifcF (tg := 24) (pc := 19) dX12_spectrum_19 rfl rfl ?_
            refine fr_iconst (pc := 22) dX12_spectrum_22 (by decide) ?_
            exact fr_iret (pc := 23) dX12_spectrum_23 (Or.inl rfl) hq
      · refine fr_iconst (pc := 22) dX12_isStatement_22 (by decide) ?_
        refine fr_iret (pc := 23) dX12_isStatement_23 (Or.inr (Or.inl ⟨rfl, Or.inl rfl⟩)) ?_
        refine fr_ifcT (tg := 22) (pc := 10) dX12_spectrum_10 rfl rfl ?_
        refine fr_iconst (pc := 22) dX12_spectrum_22 (by decide) ?_
        exact fr_iret (pc := 23) dX12_spectrum_23 (Or.inl rfl) hq
    · refine fr_iconst (pc := 14) dX12_within_14 (by decide) ?_
      refine fr_iret (pc := 15) dX12_within_15 (Or.inr (Or.inl ⟨rfl, Or.inl rfl⟩)) ?_
      refine fr_iret (pc := 13) dX12_isNode_13 (Or.inr (Or.inl ⟨rfl, Or.inl rfl⟩)) ?_
      refine fr_ifcT (tg := 22) (pc := 5) dX12_isStatement_5 rfl rfl ?_
      refine fr_iconst (pc := 22) dX12_isStatement_22 (by decide) ?_
      refine fr_iret (pc := 23) dX12_isStatement_23 (Or.inr (Or.inl ⟨rfl, Or.inl rfl⟩)) ?_
      refine fr_ifcT (tg := 22) (pc := 10) dX12_spectrum_10 rfl rfl ?_
      refine fr_iconst (pc := 22) dX12_spectrum_22 (by decide) ?_
      exact fr_iret (pc := 23) dX12_spectrum_23 (Or.inl rfl) hq
theorem k12_laysSpectra_r {M : pm_M} {K : pm_M → Prop} (hq : k12_laysSpectra_12 0 (upI (upI M 142 40 0) 142 41 0) K) : k12_laysSpectra M K := by
  intro sc d hd
  refine fr_aload_n (pc := 0) dX12_laysSpectra_0 rfl rfl ?_
  refine fr_iconst (pc := 1) dX12_laysSpectra_1 (by decide) ?_
  refine fr_put (a := 142) (i := 40) (pc := 2) dX12_laysSpectra_2 rfl pf_12_317 rfl s0_142 rfl rfl nf_142_40 rfl ?_
  refine fr_aload_n (pc := 5) dX12_laysSpectra_5 rfl rfl ?_
  refine fr_iconst (pc := 6) dX12_laysSpectra_6 (by decide) ?_
  refine fr_put (a := 142) (i := 41) (pc := 7) dX12_laysSpectra_7 rfl pf_12_320 rfl s0_142 rfl rfl nf_142_41 rfl ?_
  refine fr_iconst (pc := 10) dX12_laysSpectra_10 (by decide) ?_
  refine fr_istore_n (ls2 := [(2, 142), (0, 0), (9, 0), (9, 0)]) (pc := 11) dX12_laysSpectra_11 rfl (Nat.le_of_ble_eq_true rfl) rfl ?_
  exact hq sc d hd (9, 0) pm_t9 (9, 0) pm_t9
theorem k12_laysSpectra_12_r {l1 : Int} {M : pm_M} {K : pm_M → Prop} (hq : (if l1 < 60 then ((0 ≤ l1 ∧ l1 < 60) ∧ k12_laysSpectra_12 (w32 (l1 + 1)) (upI (upI M 159 l1 0) 160 l1 0) K) else k12_laysSpectra_40 0 M K)) : k12_laysSpectra_12 l1 M K := by
  intro sc d hd z2 hz2 z3 hz3
  refine fr_iload_n (pc := 12) dX12_laysSpectra_12 rfl rfl ?_
  refine fr_bipush (pc := 13) dX12_laysSpectra_13 (by decide) ?_
  refine fr_icm_ge (tg := 38) (pc := 15) dX12_laysSpectra_15 rfl hq (fun hc1 hq => ?_) (fun hc1 hq => ?_)
  · refine fr_aload_n (pc := 18) dX12_laysSpectra_18 rfl rfl ?_
    refine fr_getr (a := 142) (pc := 19) dX12_laysSpectra_19 rfl pf_12_66 s0_142 rfl rf_142_38 ?_
    refine fr_iload_n (pc := 22) dX12_laysSpectra_22 rfl rfl ?_
    refine fr_iconst (pc := 23) dX12_laysSpectra_23 (by decide) ?_
    obtain ⟨hb2, hq⟩ := hq
    refine fr_iastore (a := 159) (pc := 24) dX12_laysSpectra_24 rfl s0_159 hb2 nr_159 ?_
    refine fr_aload_n (pc := 25) dX12_laysSpectra_25 rfl rfl ?_
    refine fr_getr (a := 142) (pc := 26) dX12_laysSpectra_26 rfl pf_12_69 s0_142 rfl rf_142_39 ?_
    refine fr_iload_n (pc := 29) dX12_laysSpectra_29 rfl rfl ?_
    refine fr_iconst (pc := 30) dX12_laysSpectra_30 (by decide) ?_
    refine fr_iastore (a := 160) (pc := 31) dX12_laysSpectra_31 rfl s0_160 hb2 nr_160 ?_
    refine fr_iinc (z := w32 (l1 + 1)) (ls2 := [(2, 142), (0, w32 (l1 + 1)), z2, z3]) (pc := 32) dX12_laysSpectra_32 (Nat.le_of_ble_eq_true rfl) rfl rfl rfl ?_
    refine fr_goto (tg := 12) (pc := 35) dX12_laysSpectra_35 rfl ?_
    exact hq sc d hd z2 hz2 z3 hz3
  · refine fr_iconst (pc := 38) dX12_laysSpectra_38 (by decide) ?_
    refine fr_istore_n (ls2 := [(2, 142), (0, 0), z2, z3]) (pc := 39) dX12_laysSpectra_39 rfl (Nat.le_of_ble_eq_true rfl) rfl ?_
    exact hq sc d hd z2 hz2 z3 hz3
theorem k12_laysSpectra_40_r {l1 : Int} {M : pm_M} {K : pm_M → Prop} (hq : (if l1 < gI M 142 24 then ((0 ≤ w32 ((w32 (5 * l1)) + 4) ∧ w32 ((w32 (5 * l1)) + 4) < 80) ∧ (if gI M 154 (w32 ((w32 (5 * l1)) + 4)) = 1 then k12_laysSpectra_40 (w32 (l1 + 1)) M K else k12_passes l1 M (fun r5 M4 => (if r5 = 0 then k12_laysSpectra_100 l1 r5 0 (upI (upI M4 142 41 (w32 ((gI M4 142 41) + 0))) 142 40 (w32 ((gI M4 142 40) + 1))) K else k12_laysSpectra_100 l1 r5 0 (upI (upI M4 142 41 (w32 ((gI M4 142 41) + 1))) 142 40 (w32 ((gI M4 142 40) + 0))) K)))) else K M)) : k12_laysSpectra_40 l1 M K := by
  intro sc d hd z2 hz2 z3 hz3
  refine fr_iload_n (pc := 40) dX12_laysSpectra_40 rfl rfl ?_
  refine fr_aload_n (pc := 41) dX12_laysSpectra_41 rfl rfl ?_
  refine fr_getf (a := 142) (i := 24) (v := gI M 142 24) (t := 0) (pc := 42) dX12_laysSpectra_42 rfl pf_12_246 rfl s0_142 rfl rfl ?_
  refine fr_icm_ge (tg := 167) (pc := 45) dX12_laysSpectra_45 rfl hq (fun hc1 hq => ?_) (fun hc1 hq => ?_)
  · refine fr_aload_n (pc := 48) dX12_laysSpectra_48 rfl rfl ?_
    refine fr_iload_n (pc := 49) dX12_laysSpectra_49 rfl rfl ?_
    refine fr_inVI (a := 142) (as := [(0, l1)]) (rest := []) (ls' := [(2, 142), (0, l1)]) (c1 := 0) (c2 := 0) (pc := 50) dX12_laysSpectra_50 pl_12_323 rfl ⟨Nat.le_of_ble_eq_true rfl, Nat.le_of_ble_eq_true rfl⟩ rfl rfl rfl s0_142 (Nat.le_of_ble_eq_true rfl) (by omega) rfl rfl (pm_zc _) ?_ (fun y M' h => h)
    refine fr_aload_n (pc := 0) dX12_isHeld_0 rfl rfl ?_
    refine fr_getr (a := 142) (pc := 1) dX12_isHeld_1 rfl pf_12_44 s0_142 rfl rf_142_25 ?_
    refine fr_iconst (pc := 4) dX12_isHeld_4 (by decide) ?_
    refine fr_iload_n (pc := 5) dX12_isHeld_5 rfl rfl ?_
    refine fr_imul (z := w32 (5 * l1)) (pc := 6) dX12_isHeld_6 rfl ?_
    refine fr_iconst (pc := 7) dX12_isHeld_7 (by decide) ?_
    refine fr_iadd (z := w32 ((w32 (5 * l1)) + 4)) (pc := 8) dX12_isHeld_8 rfl ?_
    obtain ⟨hb2, hq⟩ := hq
    refine fr_iaload (a := 154) (v := gI M 154 (w32 ((w32 (5 * l1)) + 4))) (pc := 9) dX12_isHeld_9 rfl s0_154 hb2 rfl ?_
    refine fr_iconst (pc := 10) dX12_isHeld_10 (by decide) ?_
    refine fr_icm_ne (tg := 18) (pc := 11) dX12_isHeld_11 rfl hq (fun hc3 hq => ?_) (fun hc3 hq => ?_)
    · refine fr_iconst (pc := 14) dX12_isHeld_14 (by decide) ?_
      refine fr_goto (tg := 19) (pc := 15) dX12_isHeld_15 rfl ?_
      refine fr_iret (pc := 19) dX12_isHeld_19 (Or.inr (Or.inl ⟨rfl, Or.inr rfl⟩)) ?_
      refine fr_ifcT (tg := 161) (pc := 53) dX12_laysSpectra_53 rfl rfl ?_
      refine fr_iinc (z := w32 (l1 + 1)) (ls2 := [(2, 142), (0, w32 (l1 + 1)), z2, z3]) (pc := 161) dX12_laysSpectra_161 (Nat.le_of_ble_eq_true rfl) rfl rfl rfl ?_
      refine fr_goto (tg := 40) (pc := 164) dX12_laysSpectra_164 rfl ?_
      exact hq sc d hd z2 hz2 z3 hz3
    · refine fr_iconst (pc := 18) dX12_isHeld_18 (by decide) ?_
      refine fr_iret (pc := 19) dX12_isHeld_19 (Or.inr (Or.inl ⟨rfl, Or.inl rfl⟩)) ?_
      refine fr_ifcF (tg := 161) (pc := 53) dX12_laysSpectra_53 rfl rfl ?_
      refine fr_aload_n (pc := 56) dX12_laysSpectra_56 rfl rfl ?_
      refine fr_iload_n (pc := 57) dX12_laysSpectra_57 rfl rfl ?_
      refine fr_inVI (a := 142) (as := [(0, l1)]) (rest := []) (ls' := [(2, 142), (0, l1)]) (c1 := 0) (c2 := 0) (pc := 58) dX12_laysSpectra_58 pl_12_302 rfl ⟨Nat.le_of_ble_eq_true rfl, Nat.le_of_ble_eq_true rfl⟩ rfl rfl rfl s0_142 (Nat.le_of_ble_eq_true rfl) (by omega) rfl rfl (pm_zc _) (hq sc _ (by omega)) (fun r5 M4 hq => ?_)
      refine fr_istore_n (ls2 := [(2, 142), (0, l1), (0, r5), z3]) (pc := 61) dX12_laysSpectra_61 rfl (Nat.le_of_ble_eq_true rfl) rfl ?_
      refine fr_aload_n (pc := 62) dX12_laysSpectra_62 rfl rfl ?_
      refine fr_dup (pc := 63) dX12_laysSpectra_63 pm_t2 ?_
      refine fr_getf (a := 142) (i := 41) (v := gI M4 142 41) (t := 0) (pc := 64) dX12_laysSpectra_64 rfl pf_12_320 rfl s0_142 rfl rfl ?_
      refine fr_iload_n (pc := 67) dX12_laysSpectra_67 rfl rfl ?_
      refine fr_ifc_eq (tg := 75) (pc := 68) dX12_laysSpectra_68 rfl hq (fun hc6 hq => ?_) (fun hc6 hq => ?_)
      · refine fr_iconst (pc := 75) dX12_laysSpectra_75 (by decide) ?_
        refine fr_iadd (z := w32 ((gI M4 142 41) + 0)) (pc := 76) dX12_laysSpectra_76 rfl ?_
        refine fr_put (a := 142) (i := 41) (pc := 77) dX12_laysSpectra_77 rfl pf_12_320 rfl s0_142 rfl rfl nf_142_41 rfl ?_
        refine fr_aload_n (pc := 80) dX12_laysSpectra_80 rfl rfl ?_
        refine fr_dup (pc := 81) dX12_laysSpectra_81 pm_t2 ?_
        refine fr_getf (a := 142) (i := 40) (v := gI M4 142 40) (t := 0) (pc := 82) dX12_laysSpectra_82 rfl pf_12_317 rfl s0_142 rfl (gI_nf _ _ (by decide)) ?_
        refine fr_iload_n (pc := 85) dX12_laysSpectra_85 rfl rfl ?_
        refine fr_ifcT (tg := 93) (pc := 86) dX12_laysSpectra_86 (decide_eq_true hc6) rfl ?_
        refine fr_iconst (pc := 93) dX12_laysSpectra_93 (by decide) ?_
        refine fr_iadd (z := w32 ((gI M4 142 40) + 1)) (pc := 94) dX12_laysSpectra_94 rfl ?_
        refine fr_put (a := 142) (i := 40) (pc := 95) dX12_laysSpectra_95 rfl pf_12_317 rfl s0_142 rfl rfl nf_142_40 rfl ?_
        refine fr_iconst (pc := 98) dX12_laysSpectra_98 (by decide) ?_
        refine fr_istore_n (ls2 := [(2, 142), (0, l1), (0, r5), (0, 0)]) (pc := 99) dX12_laysSpectra_99 rfl (Nat.le_of_ble_eq_true rfl) rfl ?_
        exact hq sc d hd
      · refine fr_iconst (pc := 71) dX12_laysSpectra_71 (by decide) ?_
        refine fr_goto (tg := 76) (pc := 72) dX12_laysSpectra_72 rfl ?_
        refine fr_iadd (z := w32 ((gI M4 142 41) + 1)) (pc := 76) dX12_laysSpectra_76 rfl ?_
        refine fr_put (a := 142) (i := 41) (pc := 77) dX12_laysSpectra_77 rfl pf_12_320 rfl s0_142 rfl rfl nf_142_41 rfl ?_
        refine fr_aload_n (pc := 80) dX12_laysSpectra_80 rfl rfl ?_
        refine fr_dup (pc := 81) dX12_laysSpectra_81 pm_t2 ?_
        refine fr_getf (a := 142) (i := 40) (v := gI M4 142 40) (t := 0) (pc := 82) dX12_laysSpectra_82 rfl pf_12_317 rfl s0_142 rfl (gI_nf _ _ (by decide)) ?_
        refine fr_iload_n (pc := 85) dX12_laysSpectra_85 rfl rfl ?_
        refine fr_ifcF (tg := 93) (pc := 86) dX12_laysSpectra_86 (decide_eq_false hc6) rfl ?_
        refine fr_iconst (pc := 89) dX12_laysSpectra_89 (by decide) ?_
        refine fr_goto (tg := 94) (pc := 90) dX12_laysSpectra_90 rfl ?_
        refine fr_iadd (z := w32 ((gI M4 142 40) + 0)) (pc := 94) dX12_laysSpectra_94 rfl ?_
        refine fr_put (a := 142) (i := 40) (pc := 95) dX12_laysSpectra_95 rfl pf_12_317 rfl s0_142 rfl rfl nf_142_40 rfl ?_
        refine fr_iconst (pc := 98) dX12_laysSpectra_98 (by decide) ?_
        refine fr_istore_n (ls2 := [(2, 142), (0, l1), (0, r5), (0, 0)]) (pc := 99) dX12_laysSpectra_99 rfl (Nat.le_of_ble_eq_true rfl) rfl ?_
        exact hq sc d hd
  · exact fr_vret (pc := 167) dX12_laysSpectra_167 rfl hq
theorem k12_laysSpectra_100_r {l1 l2 l3 : Int} {M : pm_M} {K : pm_M → Prop} (hq : (if l3 < gI M 144 0 then ((0 ≤ l3 ∧ l3 < 60) ∧ (if gI M 157 l3 ≤ 0 then k12_laysSpectra_100 l1 l2 (w32 (l3 + 1)) M K else (if l2 = 0 then k12_laysSpectra_100 l1 l2 (w32 (l3 + 1)) (upI (upI M 160 l3 (w32 ((gI M 160 l3) + 0))) 159 l3 (w32 ((gI M 159 l3) + 1))) K else k12_laysSpectra_100 l1 l2 (w32 (l3 + 1)) (upI (upI M 160 l3 (w32 ((gI M 160 l3) + 1))) 159 l3 (w32 ((gI M 159 l3) + 0))) K))) else k12_laysSpectra_40 (w32 (l1 + 1)) M K)) : k12_laysSpectra_100 l1 l2 l3 M K := by
  intro sc d hd
  refine fr_iload_n (pc := 100) dX12_laysSpectra_100 rfl rfl ?_
  refine fr_aload_n (pc := 101) dX12_laysSpectra_101 rfl rfl ?_
  refine fr_getr (a := 142) (pc := 102) dX12_laysSpectra_102 rfl pf_12_13 s0_142 rfl rf_142_9 ?_
  refine fr_iconst (pc := 105) dX12_laysSpectra_105 (by decide) ?_
  refine fr_iaload (a := 144) (v := gI M 144 0) (pc := 106) dX12_laysSpectra_106 rfl s0_144 (by decide) rfl ?_
  refine fr_icm_ge (tg := 161) (pc := 107) dX12_laysSpectra_107 rfl hq (fun hc1 hq => ?_) (fun hc1 hq => ?_)
  · refine fr_aload_n (pc := 110) dX12_laysSpectra_110 rfl rfl ?_
    refine fr_getr (a := 142) (pc := 111) dX12_laysSpectra_111 rfl pf_12_53 s0_142 rfl rf_142_32 ?_
    refine fr_iload_n (pc := 114) dX12_laysSpectra_114 rfl rfl ?_
    obtain ⟨hb2, hq⟩ := hq
    refine fr_iaload (a := 157) (v := gI M 157 l3) (pc := 115) dX12_laysSpectra_115 rfl s0_157 hb2 rfl ?_
    refine fr_ifc_le (tg := 155) (pc := 116) dX12_laysSpectra_116 rfl hq (fun hc3 hq => ?_) (fun hc3 hq => ?_)
    · refine fr_iinc (z := w32 (l3 + 1)) (ls2 := [(2, 142), (0, l1), (0, l2), (0, w32 (l3 + 1))]) (pc := 155) dX12_laysSpectra_155 (Nat.le_of_ble_eq_true rfl) rfl rfl rfl ?_
      refine fr_goto (tg := 100) (pc := 158) dX12_laysSpectra_158 rfl ?_
      exact hq sc d hd
    · refine fr_aload_n (pc := 119) dX12_laysSpectra_119 rfl rfl ?_
      refine fr_getr (a := 142) (pc := 120) dX12_laysSpectra_120 rfl pf_12_69 s0_142 rfl rf_142_39 ?_
      refine fr_iload_n (pc := 123) dX12_laysSpectra_123 rfl rfl ?_
      refine fr_dup2 (pc := 124) dX12_laysSpectra_124 pm_t0 pm_t2 ?_
      refine fr_iaload (a := 160) (v := gI M 160 l3) (pc := 125) dX12_laysSpectra_125 rfl s0_160 hb2 rfl ?_
      refine fr_iload_n (pc := 126) dX12_laysSpectra_126 rfl rfl ?_
      refine fr_ifc_eq (tg := 134) (pc := 127) dX12_laysSpectra_127 rfl hq (fun hc4 hq => ?_) (fun hc4 hq => ?_)
      · refine fr_iconst (pc := 134) dX12_laysSpectra_134 (by decide) ?_
        refine fr_iadd (z := w32 ((gI M 160 l3) + 0)) (pc := 135) dX12_laysSpectra_135 rfl ?_
        refine fr_iastore (a := 160) (pc := 136) dX12_laysSpectra_136 rfl s0_160 hb2 nr_160 ?_
        refine fr_aload_n (pc := 137) dX12_laysSpectra_137 rfl rfl ?_
        refine fr_getr (a := 142) (pc := 138) dX12_laysSpectra_138 rfl pf_12_66 s0_142 rfl rf_142_38 ?_
        refine fr_iload_n (pc := 141) dX12_laysSpectra_141 rfl rfl ?_
        refine fr_dup2 (pc := 142) dX12_laysSpectra_142 pm_t0 pm_t2 ?_
        refine fr_iaload (a := 159) (v := gI M 159 l3) (pc := 143) dX12_laysSpectra_143 rfl s0_159 hb2 (gI_ne _ _ _ _ (by decide)) ?_
        refine fr_iload_n (pc := 144) dX12_laysSpectra_144 rfl rfl ?_
        refine fr_ifcT (tg := 152) (pc := 145) dX12_laysSpectra_145 (decide_eq_true hc4) rfl ?_
        refine fr_iconst (pc := 152) dX12_laysSpectra_152 (by decide) ?_
        refine fr_iadd (z := w32 ((gI M 159 l3) + 1)) (pc := 153) dX12_laysSpectra_153 rfl ?_
        refine fr_iastore (a := 159) (pc := 154) dX12_laysSpectra_154 rfl s0_159 hb2 nr_159 ?_
        refine fr_iinc (z := w32 (l3 + 1)) (ls2 := [(2, 142), (0, l1), (0, l2), (0, w32 (l3 + 1))]) (pc := 155) dX12_laysSpectra_155 (Nat.le_of_ble_eq_true rfl) rfl rfl rfl ?_
        refine fr_goto (tg := 100) (pc := 158) dX12_laysSpectra_158 rfl ?_
        exact hq sc d hd
      · refine fr_iconst (pc := 130) dX12_laysSpectra_130 (by decide) ?_
        refine fr_goto (tg := 135) (pc := 131) dX12_laysSpectra_131 rfl ?_
        refine fr_iadd (z := w32 ((gI M 160 l3) + 1)) (pc := 135) dX12_laysSpectra_135 rfl ?_
        refine fr_iastore (a := 160) (pc := 136) dX12_laysSpectra_136 rfl s0_160 hb2 nr_160 ?_
        refine fr_aload_n (pc := 137) dX12_laysSpectra_137 rfl rfl ?_
        refine fr_getr (a := 142) (pc := 138) dX12_laysSpectra_138 rfl pf_12_66 s0_142 rfl rf_142_38 ?_
        refine fr_iload_n (pc := 141) dX12_laysSpectra_141 rfl rfl ?_
        refine fr_dup2 (pc := 142) dX12_laysSpectra_142 pm_t0 pm_t2 ?_
        refine fr_iaload (a := 159) (v := gI M 159 l3) (pc := 143) dX12_laysSpectra_143 rfl s0_159 hb2 (gI_ne _ _ _ _ (by decide)) ?_
        refine fr_iload_n (pc := 144) dX12_laysSpectra_144 rfl rfl ?_
        refine fr_ifcF (tg := 152) (pc := 145) dX12_laysSpectra_145 (decide_eq_false hc4) rfl ?_
        refine fr_iconst (pc := 148) dX12_laysSpectra_148 (by decide) ?_
        refine fr_goto (tg := 153) (pc := 149) dX12_laysSpectra_149 rfl ?_
        refine fr_iadd (z := w32 ((gI M 159 l3) + 0)) (pc := 153) dX12_laysSpectra_153 rfl ?_
        refine fr_iastore (a := 159) (pc := 154) dX12_laysSpectra_154 rfl s0_159 hb2 nr_159 ?_
        refine fr_iinc (z := w32 (l3 + 1)) (ls2 := [(2, 142), (0, l1), (0, l2), (0, w32 (l3 + 1))]) (pc := 155) dX12_laysSpectra_155 (Nat.le_of_ble_eq_true rfl) rfl rfl rfl ?_
        refine fr_goto (tg := 100) (pc := 158) dX12_laysSpectra_158 rfl ?_
        exact hq sc d hd
  · refine fr_iinc (z := w32 (l1 + 1)) (ls2 := [(2, 142), (0, w32 (l1 + 1)), (0, l2), (0, l3)]) (pc := 161) dX12_laysSpectra_161 (Nat.le_of_ble_eq_true rfl) rfl rfl rfl ?_
    refine fr_goto (tg := 40) (pc := 164) dX12_laysSpectra_164 rfl ?_
    exact hq sc d hd (0, l2) pm_t0 (0, l3) pm_t0
theorem k12_score_r {a1 a2 a3 : Int} {M : pm_M} {K : Int → pm_M → Prop} (hq : (if a1 < 0 then K (-1) (upI M 142 0 0) else (if a1 ≤ 2 then (if a2 < 0 then K (-1) (upI M 142 0 0) else (if a2 ≤ w32 ((gI M 144 0) - 1) then ((0 ≤ a2 ∧ a2 < 800) ∧ (if gI M 145 a2 ≤ 3 then (if a3 < 0 then K (-1) (upI M 142 0 0) else (if a3 ≤ 1 then k12_laysSpectra (upI M 142 0 0) (fun M9 => k12_scores a1 a2 M9 (fun M11 => (if a3 = 0 then K (gI M11 142 42) M11 else K (gI M11 142 43) M11))) else K (-1) (upI M 142 0 0))) else K (-1) (upI M 142 0 0))) else K (-1) (upI M 142 0 0))) else K (-1) (upI M 142 0 0)))) : k12_score a1 a2 a3 M K := by
  intro sc d hd
  refine fr_aload_n (pc := 0) dX12_score_0 rfl rfl ?_
  refine fr_iconst (pc := 1) dX12_score_1 (by decide) ?_
  refine fr_put (a := 142) (i := 0) (pc := 2) dX12_score_2 rfl pf_12_121 rfl s0_142 rfl rfl nf_142_0 rfl ?_
  refine fr_iload_n (pc := 5) dX12_score_5 rfl rfl ?_
  refine fr_iconst (pc := 6) dX12_score_6 (by decide) ?_
  refine fr_iconst (pc := 7) dX12_score_7 (by decide) ?_
  refine fr_inSI (as := [(0, a1), (0, 0), (0, 2)]) (rest := []) (ls' := [(0, a1), (0, 0), (0, 2)]) (c1 := 0) (c2 := 0) (pc := 8) dX12_score_8 pl_12_147 rfl ⟨Nat.le_of_ble_eq_true rfl, Nat.le_of_ble_eq_true rfl⟩ rfl rfl  (by omega) rfl rfl (pm_zc _) ?_ (fun y M' h => h)
  refine fr_iload_n (pc := 0) dX12_within_0 rfl rfl ?_
  refine fr_iload_n (pc := 1) dX12_within_1 rfl rfl ?_
  refine fr_icm_lt (tg := 14) (pc := 2) dX12_within_2 rfl hq (fun hc1 hq => ?_) (fun hc1 hq => ?_)
  · refine fr_iconst (pc := 14) dX12_within_14 (by decide) ?_
    refine fr_iret (pc := 15) dX12_within_15 (Or.inr (Or.inl ⟨rfl, Or.inl rfl⟩)) ?_
    refine fr_ifcT (tg := 31) (pc := 11) dX12_score_11 rfl rfl ?_
    refine fr_iconst (pc := 31) dX12_score_31 (by decide) ?_
    exact fr_iret (pc := 32) dX12_score_32 (Or.inl rfl) hq
  · refine fr_iload_n (pc := 5) dX12_within_5 rfl rfl ?_
    refine fr_iload_n (pc := 6) dX12_within_6 rfl rfl ?_
    refine fr_icm_gt (tg := 14) (pc := 7) dX12_within_7 rfl hq (fun hc2 hq => ?_) (fun hc2 hq => ?_)
    · refine fr_iconst (pc := 10) dX12_within_10 (by decide) ?_
      refine fr_goto (tg := 15) (pc := 11) dX12_within_11 rfl ?_
      refine fr_iret (pc := 15) dX12_within_15 (Or.inr (Or.inl ⟨rfl, Or.inr rfl⟩)) ?_
      refine fr_ifcF (tg := 31) (pc := 11) dX12_score_11 rfl rfl ?_
      refine fr_aload_n (pc := 14) dX12_score_14 rfl rfl ?_
      refine fr_iload_n (pc := 15) dX12_score_15 rfl rfl ?_
      refine fr_inVI (a := 142) (as := [(0, a2)]) (rest := []) (ls' := [(2, 142), (0, a2)]) (c1 := 0) (c2 := 0) (pc := 16) dX12_score_16 pl_12_308 rfl ⟨Nat.le_of_ble_eq_true rfl, Nat.le_of_ble_eq_true rfl⟩ rfl rfl rfl s0_142 (Nat.le_of_ble_eq_true rfl) (by omega) rfl rfl (pm_zc _) ?_ (fun y M' h => h)
      refine fr_aload_n (pc := 0) dX12_isStatement_0 rfl rfl ?_
      refine fr_iload_n (pc := 1) dX12_isStatement_1 rfl rfl ?_
      refine fr_inVI (a := 142) (as := [(0, a2)]) (rest := []) (ls' := [(2, 142), (0, a2)]) (c1 := 0) (c2 := 0) (pc := 2) dX12_isStatement_2 pl_12_305 rfl ⟨Nat.le_of_ble_eq_true rfl, Nat.le_of_ble_eq_true rfl⟩ rfl rfl rfl s0_142 (Nat.le_of_ble_eq_true rfl) (by omega) rfl rfl (pm_zc _) ?_ (fun y M' h => h)
      refine fr_iload_n (pc := 0) dX12_isNode_0 rfl rfl ?_
      refine fr_iconst (pc := 1) dX12_isNode_1 (by decide) ?_
      refine fr_aload_n (pc := 2) dX12_isNode_2 rfl rfl ?_
      refine fr_getr (a := 142) (pc := 3) dX12_isNode_3 rfl pf_12_13 s0_142 rfl rf_142_9 ?_
      refine fr_iconst (pc := 6) dX12_isNode_6 (by decide) ?_
      refine fr_iaload (a := 144) (v := gI M 144 0) (pc := 7) dX12_isNode_7 rfl s0_144 (by decide) (gI_ne _ _ _ _ (by decide)) ?_
      refine fr_iconst (pc := 8) dX12_isNode_8 (by decide) ?_
      refine fr_isub (z := w32 ((gI M 144 0) - 1)) (pc := 9) dX12_isNode_9 rfl ?_
      refine fr_inSI (as := [(0, a2), (0, 0), (0, w32 ((gI M 144 0) - 1))]) (rest := []) (ls' := [(0, a2), (0, 0), (0, w32 ((gI M 144 0) - 1))]) (c1 := 0) (c2 := 0) (pc := 10) dX12_isNode_10 pl_12_147 rfl ⟨Nat.le_of_ble_eq_true rfl, Nat.le_of_ble_eq_true rfl⟩ rfl rfl  (by omega) rfl rfl (pm_zc _) ?_ (fun y M' h => h)
      refine fr_iload_n (pc := 0) dX12_within_0 rfl rfl ?_
      refine fr_iload_n (pc := 1) dX12_within_1 rfl rfl ?_
      refine fr_icm_lt (tg := 14) (pc := 2) dX12_within_2 rfl hq (fun hc3 hq => ?_) (fun hc3 hq => ?_)
      · refine fr_iconst (pc := 14) dX12_within_14 (by decide) ?_
        refine fr_iret (pc := 15) dX12_within_15 (Or.inr (Or.inl ⟨rfl, Or.inl rfl⟩)) ?_
        refine fr_iret (pc := 13) dX12_isNode_13 (Or.inr (Or.inl ⟨rfl, Or.inl rfl⟩)) ?_
        refine fr_ifcT (tg := 22) (pc := 5) dX12_isStatement_5 rfl rfl ?_
        refine fr_iconst (pc := 22) dX12_isStatement_22 (by decide) ?_
        refine fr_iret (pc := 23) dX12_isStatement_23 (Or.inr (Or.inl ⟨rfl, Or.inl rfl⟩)) ?_
        refine fr_ifcT (tg := 31) (pc := 19) dX12_score_19 rfl rfl ?_
        refine fr_iconst (pc := 31) dX12_score_31 (by decide) ?_
        exact fr_iret (pc := 32) dX12_score_32 (Or.inl rfl) hq
      · refine fr_iload_n (pc := 5) dX12_within_5 rfl rfl ?_
        refine fr_iload_n (pc := 6) dX12_within_6 rfl rfl ?_
        refine fr_icm_gt (tg := 14) (pc := 7) dX12_within_7 rfl hq (fun hc4 hq => ?_) (fun hc4 hq => ?_)
        · refine fr_iconst (pc := 10) dX12_within_10 (by decide) ?_
          refine fr_goto (tg := 15) (pc := 11) dX12_within_11 rfl ?_
          refine fr_iret (pc := 15) dX12_within_15 (Or.inr (Or.inl ⟨rfl, Or.inr rfl⟩)) ?_
          refine fr_iret (pc := 13) dX12_isNode_13 (Or.inr (Or.inl ⟨rfl, Or.inr rfl⟩)) ?_
          refine fr_ifcF (tg := 22) (pc := 5) dX12_isStatement_5 rfl rfl ?_
          refine fr_aload_n (pc := 8) dX12_isStatement_8 rfl rfl ?_
          refine fr_getr (a := 142) (pc := 9) dX12_isStatement_9 rfl pf_12_17 s0_142 rfl rf_142_10 ?_
          refine fr_iload_n (pc := 12) dX12_isStatement_12 rfl rfl ?_
          obtain ⟨hb5, hq⟩ := hq
          refine fr_iaload (a := 145) (v := gI M 145 a2) (pc := 13) dX12_isStatement_13 rfl s0_145 hb5 (gI_ne _ _ _ _ (by decide)) ?_
          refine fr_iconst (pc := 14) dX12_isStatement_14 (by decide) ?_
          refine fr_icm_gt (tg := 22) (pc := 15) dX12_isStatement_15 rfl hq (fun hc6 hq => ?_) (fun hc6 hq => ?_)
          · refine fr_iconst (pc := 18) dX12_isStatement_18 (by decide) ?_
            refine fr_goto (tg := 23) (pc := 19) dX12_isStatement_19 rfl ?_
            refine fr_iret (pc := 23) dX12_isStatement_23 (Or.inr (Or.inl ⟨rfl, Or.inr rfl⟩)) ?_
            refine fr_ifcF (tg := 31) (pc := 19) dX12_score_19 rfl rfl ?_
            refine fr_iload_n (pc := 22) dX12_score_22 rfl rfl ?_
            refine fr_iconst (pc := 23) dX12_score_23 (by decide) ?_
            refine fr_iconst (pc := 24) dX12_score_24 (by decide) ?_
            refine fr_inSI (as := [(0, a3), (0, 0), (0, 1)]) (rest := []) (ls' := [(0, a3), (0, 0), (0, 1)]) (c1 := 0) (c2 := 0) (pc := 25) dX12_score_25 pl_12_147 rfl ⟨Nat.le_of_ble_eq_true rfl, Nat.le_of_ble_eq_true rfl⟩ rfl rfl  (by omega) rfl rfl (pm_zc _) ?_ (fun y M' h => h)
            refine fr_iload_n (pc := 0) dX12_within_0 rfl rfl ?_
            refine fr_iload_n (pc := 1) dX12_within_1 rfl rfl ?_
            refine fr_icm_lt (tg := 14) (pc := 2) dX12_within_2 rfl hq (fun hc7 hq => ?_) (fun hc7 hq => ?_)
            · refine fr_iconst (pc := 14) dX12_within_14 (by decide) ?_
              refine fr_iret (pc := 15) dX12_within_15 (Or.inr (Or.inl ⟨rfl, Or.inl rfl⟩)) ?_
              refine fr_ifcF (tg := 33) (pc := 28) dX12_score_28 rfl rfl ?_
              refine fr_iconst (pc := 31) dX12_score_31 (by decide) ?_
              exact fr_iret (pc := 32) dX12_score_32 (Or.inl rfl) hq
            · refine fr_iload_n (pc := 5) dX12_within_5 rfl rfl ?_
              refine fr_iload_n (pc := 6) dX12_within_6 rfl rfl ?_
              refine fr_icm_gt (tg := 14) (pc := 7) dX12_within_7 rfl hq (fun hc8 hq => ?_) (fun hc8 hq => ?_)
              · refine fr_iconst (pc := 10) dX12_within_10 (by decide) ?_
                refine fr_goto (tg := 15) (pc := 11) dX12_within_11 rfl ?_
                refine fr_iret (pc := 15) dX12_within_15 (Or.inr (Or.inl ⟨rfl, Or.inr rfl⟩)) ?_
                refine fr_ifcT (tg := 33) (pc := 28) dX12_score_28 rfl rfl ?_
                refine fr_aload_n (pc := 33) dX12_score_33 rfl rfl ?_
                refine fr_inVV (a := 142) (as := []) (rest := []) (ls' := [(2, 142), (9, 0), (9, 0), (9, 0)]) (c1 := 0) (c2 := 0) (pc := 34) dX12_score_34 pl_12_326 rfl ⟨Nat.le_of_ble_eq_true rfl, Nat.le_of_ble_eq_true rfl⟩ rfl rfl rfl s0_142 (Nat.le_of_ble_eq_true rfl) (by omega) rfl rfl (pm_zc _) (hq sc _ (by omega)) (fun M9 hq => ?_)
                refine fr_aload_n (pc := 37) dX12_score_37 rfl rfl ?_
                refine fr_iload_n (pc := 38) dX12_score_38 rfl rfl ?_
                refine fr_iload_n (pc := 39) dX12_score_39 rfl rfl ?_
                refine fr_inVV (a := 142) (as := [(0, a1), (0, a2)]) (rest := []) (ls' := [(2, 142), (0, a1), (0, a2), (9, 0), (9, 0), (9, 0), (9, 0), (9, 0)]) (c1 := 0) (c2 := 0) (pc := 40) dX12_score_40 pl_12_335 rfl ⟨Nat.le_of_ble_eq_true rfl, Nat.le_of_ble_eq_true rfl⟩ rfl rfl rfl s0_142 (Nat.le_of_ble_eq_true rfl) (by omega) rfl rfl (pm_zc _) (hq sc _ (by omega)) (fun M11 hq => ?_)
                refine fr_iload_n (pc := 43) dX12_score_43 rfl rfl ?_
                refine fr_ifc_ne (tg := 54) (pc := 44) dX12_score_44 rfl hq (fun hc13 hq => ?_) (fun hc13 hq => ?_)
                · refine fr_aload_n (pc := 47) dX12_score_47 rfl rfl ?_
                  refine fr_getf (a := 142) (i := 42) (v := gI M11 142 42) (t := 0) (pc := 48) dX12_score_48 rfl pf_12_329 rfl s0_142 rfl rfl ?_
                  refine fr_goto (tg := 58) (pc := 51) dX12_score_51 rfl ?_
                  exact fr_iret (pc := 58) dX12_score_58 (Or.inl rfl) hq
                · refine fr_aload_n (pc := 54) dX12_score_54 rfl rfl ?_
                  refine fr_getf (a := 142) (i := 43) (v := gI M11 142 43) (t := 0) (pc := 55) dX12_score_55 rfl pf_12_332 rfl s0_142 rfl rfl ?_
                  exact fr_iret (pc := 58) dX12_score_58 (Or.inl rfl) hq
              · refine fr_iconst (pc := 14) dX12_within_14 (by decide) ?_
                refine fr_iret (pc := 15) dX12_within_15 (Or.inr (Or.inl ⟨rfl, Or.inl rfl⟩)) ?_
                refine fr_ifcF (tg := 33) (pc := 28) dX12_score_28 rfl rfl ?_
                refine fr_iconst (pc := 31) dX12_score_31 (by decide) ?_
                exact fr_iret (pc := 32) dX12_score_32 (Or.inl rfl) hq
          · refine fr_iconst (pc := 22) dX12_isStatement_22 (by decide) ?_
            refine fr_iret (pc := 23) dX12_isStatement_23 (Or.inr (Or.inl ⟨rfl, Or.inl rfl⟩)) ?_
            refine fr_ifcT (tg := 31) (pc := 19) dX12_score_19 rfl rfl ?_
            refine fr_iconst (pc := 31) dX12_score_31 (by decide) ?_
            exact fr_iret (pc := 32) dX12_score_32 (Or.inl rfl) hq
        · refine fr_iconst (pc := 14) dX12_within_14 (by decide) ?_
          refine fr_iret (pc := 15) dX12_within_15 (Or.inr (Or.inl ⟨rfl, Or.inl rfl⟩)) ?_
          refine fr_iret (pc := 13) dX12_isNode_13 (Or.inr (Or.inl ⟨rfl, Or.inl rfl⟩)) ?_
          refine fr_ifcT (tg := 22) (pc := 5) dX12_isStatement_5 rfl rfl ?_
          refine fr_iconst (pc := 22) dX12_isStatement_22 (by decide) ?_
          refine fr_iret (pc := 23) dX12_isStatement_23 (Or.inr (Or.inl ⟨rfl, Or.inl rfl⟩)) ?_
          refine fr_ifcT (tg := 31) (pc := 19) dX12_score_19 rfl rfl ?_
          refine fr_iconst (pc := 31) dX12_score_31 (by decide) ?_
          exact fr_iret (pc := 32) dX12_score_32 (Or.inl rfl) hq
    · refine fr_iconst (pc := 14) dX12_within_14 (by decide) ?_
      refine fr_iret (pc := 15) dX12_within_15 (Or.inr (Or.inl ⟨rfl, Or.inl rfl⟩)) ?_
      refine fr_ifcT (tg := 31) (pc := 11) dX12_score_11 rfl rfl ?_
      refine fr_iconst (pc := 31) dX12_score_31 (by decide) ?_
      exact fr_iret (pc := 32) dX12_score_32 (Or.inl rfl) hq
theorem k12_scores_r {a1 a2 : Int} {M : pm_M} {K : pm_M → Prop} (hq : ((0 ≤ a2 ∧ a2 < 60) ∧ (if gI M 159 a2 ≤ 0 then k12_scores_86 a1 (gI M 159 a2) (gI M 160 a2) (upI (upI M 142 42 0) 142 43 1) K else (if a1 = 0 then (if gI M 142 41 = 0 then k12_scores_178 1 1 (upI (upI (upI (upI M 142 42 0) 142 43 1) 142 42 1) 142 43 1) K else k12_scores_178 (w32 ((gI M 159 a2) * (gI M 142 41))) (w32 ((w32 ((gI M 159 a2) * (gI M 142 41))) + (w32 ((gI M 160 a2) * (gI M 142 40))))) (upI (upI (upI (upI M 142 42 0) 142 43 1) 142 42 (w32 ((gI M 159 a2) * (gI M 142 41)))) 142 43 (w32 ((w32 ((gI M 159 a2) * (gI M 142 41))) + (w32 ((gI M 160 a2) * (gI M 142 40)))))) K) else k12_scores_86 a1 (gI M 159 a2) (gI M 160 a2) (upI (upI M 142 42 0) 142 43 1) K)))) : k12_scores a1 a2 M K := by
  intro sc d hd
  refine fr_aload_n (pc := 0) dX12_scores_0 rfl rfl ?_
  refine fr_getr (a := 142) (pc := 1) dX12_scores_1 rfl pf_12_66 s0_142 rfl rf_142_38 ?_
  refine fr_iload_n (pc := 4) dX12_scores_4 rfl rfl ?_
  obtain ⟨hb1, hq⟩ := hq
  refine fr_iaload (a := 159) (v := gI M 159 a2) (pc := 5) dX12_scores_5 rfl s0_159 hb1 rfl ?_
  refine fr_istore_n (ls2 := [(2, 142), (0, a1), (0, a2), (0, gI M 159 a2), (9, 0), (9, 0), (9, 0), (9, 0)]) (pc := 6) dX12_scores_6 rfl (Nat.le_of_ble_eq_true rfl) rfl ?_
  refine fr_aload_n (pc := 7) dX12_scores_7 rfl rfl ?_
  refine fr_getr (a := 142) (pc := 8) dX12_scores_8 rfl pf_12_69 s0_142 rfl rf_142_39 ?_
  refine fr_iload_n (pc := 11) dX12_scores_11 rfl rfl ?_
  refine fr_iaload (a := 160) (v := gI M 160 a2) (pc := 12) dX12_scores_12 rfl s0_160 hb1 rfl ?_
  refine fr_istore (ls2 := [(2, 142), (0, a1), (0, a2), (0, gI M 159 a2), (0, gI M 160 a2), (9, 0), (9, 0), (9, 0)]) (pc := 13) dX12_scores_13 rfl (Nat.le_of_ble_eq_true rfl) rfl ?_
  refine fr_aload_n (pc := 15) dX12_scores_15 rfl rfl ?_
  refine fr_iconst (pc := 16) dX12_scores_16 (by decide) ?_
  refine fr_put (a := 142) (i := 42) (pc := 17) dX12_scores_17 rfl pf_12_329 rfl s0_142 rfl rfl nf_142_42 rfl ?_
  refine fr_aload_n (pc := 20) dX12_scores_20 rfl rfl ?_
  refine fr_iconst (pc := 21) dX12_scores_21 (by decide) ?_
  refine fr_put (a := 142) (i := 43) (pc := 22) dX12_scores_22 rfl pf_12_332 rfl s0_142 rfl rfl nf_142_43 rfl ?_
  refine fr_iload_n (pc := 25) dX12_scores_25 rfl rfl ?_
  refine fr_ifc_le (tg := 86) (pc := 26) dX12_scores_26 rfl hq (fun hc2 hq => ?_) (fun hc2 hq => ?_)
  · exact hq sc d hd (0, a2) pm_t0 (9, 0) pm_t9 (9, 0) pm_t9 (9, 0) pm_t9
  · refine fr_iload_n (pc := 29) dX12_scores_29 rfl rfl ?_
    refine fr_ifc_ne (tg := 86) (pc := 30) dX12_scores_30 rfl hq (fun hc3 hq => ?_) (fun hc3 hq => ?_)
    · refine fr_aload_n (pc := 33) dX12_scores_33 rfl rfl ?_
      refine fr_aload_n (pc := 34) dX12_scores_34 rfl rfl ?_
      refine fr_getf (a := 142) (i := 41) (v := gI M 142 41) (t := 0) (pc := 35) dX12_scores_35 rfl pf_12_320 rfl s0_142 rfl ((gI_nf _ _ (by decide)).trans (gI_nf _ _ (by decide))) ?_
      refine fr_ifc_ne (tg := 45) (pc := 38) dX12_scores_38 rfl hq (fun hc4 hq => ?_) (fun hc4 hq => ?_)
      · refine fr_iconst (pc := 41) dX12_scores_41 (by decide) ?_
        refine fr_goto (tg := 51) (pc := 42) dX12_scores_42 rfl ?_
        refine fr_put (a := 142) (i := 42) (pc := 51) dX12_scores_51 rfl pf_12_329 rfl s0_142 rfl rfl nf_142_42 rfl ?_
        refine fr_aload_n (pc := 54) dX12_scores_54 rfl rfl ?_
        refine fr_aload_n (pc := 55) dX12_scores_55 rfl rfl ?_
        refine fr_getf (a := 142) (i := 41) (v := gI M 142 41) (t := 0) (pc := 56) dX12_scores_56 rfl pf_12_320 rfl s0_142 rfl ((gI_nf _ _ (by decide)).trans ((gI_nf _ _ (by decide)).trans (gI_nf _ _ (by decide)))) ?_
        refine fr_ifcF (tg := 66) (pc := 59) dX12_scores_59 (decide_eq_false (fun z => z hc4)) rfl ?_
        refine fr_iconst (pc := 62) dX12_scores_62 (by decide) ?_
        refine fr_goto (tg := 80) (pc := 63) dX12_scores_63 rfl ?_
        refine fr_put (a := 142) (i := 43) (pc := 80) dX12_scores_80 rfl pf_12_332 rfl s0_142 rfl rfl nf_142_43 rfl ?_
        refine fr_goto (tg := 166) (pc := 83) dX12_scores_83 rfl ?_
        refine fr_aload_n (pc := 166) dX12_scores_166 rfl rfl ?_
        refine fr_getf (a := 142) (i := 42) (v := 1) (t := 0) (pc := 167) dX12_scores_167 rfl pf_12_329 rfl s0_142 rfl ((gI_nf _ _ (by decide)).trans (gI_eq _ _ _ _)) ?_
        refine fr_istore (ls2 := [(2, 142), (0, a1), (0, a2), (0, gI M 159 a2), (0, gI M 160 a2), (0, 1), (9, 0), (9, 0)]) (pc := 170) dX12_scores_170 rfl (Nat.le_of_ble_eq_true rfl) rfl ?_
        refine fr_aload_n (pc := 172) dX12_scores_172 rfl rfl ?_
        refine fr_getf (a := 142) (i := 43) (v := 1) (t := 0) (pc := 173) dX12_scores_173 rfl pf_12_332 rfl s0_142 rfl (gI_eq _ _ _ _) ?_
        refine fr_istore (ls2 := [(2, 142), (0, a1), (0, a2), (0, gI M 159 a2), (0, gI M 160 a2), (0, 1), (0, 1), (9, 0)]) (pc := 176) dX12_scores_176 rfl (Nat.le_of_ble_eq_true rfl) rfl ?_
        exact hq sc d hd (0, a1) pm_t0 (0, a2) pm_t0 (0, gI M 159 a2) pm_t0 (0, gI M 160 a2) pm_t0 (9, 0) pm_t9
      · refine fr_iload_n (pc := 45) dX12_scores_45 rfl rfl ?_
        refine fr_aload_n (pc := 46) dX12_scores_46 rfl rfl ?_
        refine fr_getf (a := 142) (i := 41) (v := gI M 142 41) (t := 0) (pc := 47) dX12_scores_47 rfl pf_12_320 rfl s0_142 rfl ((gI_nf _ _ (by decide)).trans (gI_nf _ _ (by decide))) ?_
        refine fr_imul (z := w32 ((gI M 159 a2) * (gI M 142 41))) (pc := 50) dX12_scores_50 rfl ?_
        refine fr_put (a := 142) (i := 42) (pc := 51) dX12_scores_51 rfl pf_12_329 rfl s0_142 rfl rfl nf_142_42 rfl ?_
        refine fr_aload_n (pc := 54) dX12_scores_54 rfl rfl ?_
        refine fr_aload_n (pc := 55) dX12_scores_55 rfl rfl ?_
        refine fr_getf (a := 142) (i := 41) (v := gI M 142 41) (t := 0) (pc := 56) dX12_scores_56 rfl pf_12_320 rfl s0_142 rfl ((gI_nf _ _ (by decide)).trans ((gI_nf _ _ (by decide)).trans (gI_nf _ _ (by decide)))) ?_
        refine fr_ifcT (tg := 66) (pc := 59) dX12_scores_59 (decide_eq_true hc4) rfl ?_
        refine fr_iload_n (pc := 66) dX12_scores_66 rfl rfl ?_
        refine fr_aload_n (pc := 67) dX12_scores_67 rfl rfl ?_
        refine fr_getf (a := 142) (i := 41) (v := gI M 142 41) (t := 0) (pc := 68) dX12_scores_68 rfl pf_12_320 rfl s0_142 rfl ((gI_nf _ _ (by decide)).trans ((gI_nf _ _ (by decide)).trans (gI_nf _ _ (by decide)))) ?_
        refine fr_imul (z := w32 ((gI M 159 a2) * (gI M 142 41))) (pc := 71) dX12_scores_71 rfl ?_
        refine fr_iload (pc := 72) dX12_scores_72 rfl rfl ?_
        refine fr_aload_n (pc := 74) dX12_scores_74 rfl rfl ?_
        refine fr_getf (a := 142) (i := 40) (v := gI M 142 40) (t := 0) (pc := 75) dX12_scores_75 rfl pf_12_317 rfl s0_142 rfl ((gI_nf _ _ (by decide)).trans ((gI_nf _ _ (by decide)).trans (gI_nf _ _ (by decide)))) ?_
        refine fr_imul (z := w32 ((gI M 160 a2) * (gI M 142 40))) (pc := 78) dX12_scores_78 rfl ?_
        refine fr_iadd (z := w32 ((w32 ((gI M 159 a2) * (gI M 142 41))) + (w32 ((gI M 160 a2) * (gI M 142 40))))) (pc := 79) dX12_scores_79 rfl ?_
        refine fr_put (a := 142) (i := 43) (pc := 80) dX12_scores_80 rfl pf_12_332 rfl s0_142 rfl rfl nf_142_43 rfl ?_
        refine fr_goto (tg := 166) (pc := 83) dX12_scores_83 rfl ?_
        refine fr_aload_n (pc := 166) dX12_scores_166 rfl rfl ?_
        refine fr_getf (a := 142) (i := 42) (v := w32 ((gI M 159 a2) * (gI M 142 41))) (t := 0) (pc := 167) dX12_scores_167 rfl pf_12_329 rfl s0_142 rfl ((gI_nf _ _ (by decide)).trans (gI_eq _ _ _ _)) ?_
        refine fr_istore (ls2 := [(2, 142), (0, a1), (0, a2), (0, gI M 159 a2), (0, gI M 160 a2), (0, w32 ((gI M 159 a2) * (gI M 142 41))), (9, 0), (9, 0)]) (pc := 170) dX12_scores_170 rfl (Nat.le_of_ble_eq_true rfl) rfl ?_
        refine fr_aload_n (pc := 172) dX12_scores_172 rfl rfl ?_
        refine fr_getf (a := 142) (i := 43) (v := w32 ((w32 ((gI M 159 a2) * (gI M 142 41))) + (w32 ((gI M 160 a2) * (gI M 142 40))))) (t := 0) (pc := 173) dX12_scores_173 rfl pf_12_332 rfl s0_142 rfl (gI_eq _ _ _ _) ?_
        refine fr_istore (ls2 := [(2, 142), (0, a1), (0, a2), (0, gI M 159 a2), (0, gI M 160 a2), (0, w32 ((gI M 159 a2) * (gI M 142 41))), (0, w32 ((w32 ((gI M 159 a2) * (gI M 142 41))) + (w32 ((gI M 160 a2) * (gI M 142 40))))), (9, 0)]) (pc := 176) dX12_scores_176 rfl (Nat.le_of_ble_eq_true rfl) rfl ?_
        exact hq sc d hd (0, a1) pm_t0 (0, a2) pm_t0 (0, gI M 159 a2) pm_t0 (0, gI M 160 a2) pm_t0 (9, 0) pm_t9
    · exact hq sc d hd (0, a2) pm_t0 (9, 0) pm_t9 (9, 0) pm_t9 (9, 0) pm_t9
theorem k12_scores_86_r {l1 l3 l4 : Int} {M : pm_M} {K : pm_M → Prop} (hq : (if l3 ≤ 0 then k12_scores_178 (gI M 142 42) (gI M 142 43) M K else (if l1 = 1 then k12_scores_178 (w32 (l3 * l3)) (w32 ((gI M 142 40) * (w32 (l3 + l4)))) (upI (upI M 142 42 (w32 (l3 * l3))) 142 43 (w32 ((gI M 142 40) * (w32 (l3 + l4))))) K else (if w32 ((w32 (l4 + (gI M 142 40))) - l3) = 0 then k12_scores_178 1000 1 (upI (upI M 142 42 1000) 142 43 1) K else k12_scores_178 (w32 (l3 * l3)) (w32 ((w32 (l4 + (gI M 142 40))) - l3)) (upI (upI M 142 42 (w32 (l3 * l3))) 142 43 (w32 ((w32 (l4 + (gI M 142 40))) - l3))) K)))) : k12_scores_86 l1 l3 l4 M K := by
  intro sc d hd z2 hz2 z5 hz5 z6 hz6 z7 hz7
  refine fr_iload_n (pc := 86) dX12_scores_86 rfl rfl ?_
  refine fr_ifc_le (tg := 118) (pc := 87) dX12_scores_87 rfl hq (fun hc1 hq => ?_) (fun hc1 hq => ?_)
  · refine fr_iload_n (pc := 118) dX12_scores_118 rfl rfl ?_
    refine fr_ifcT (tg := 166) (pc := 119) dX12_scores_119 (decide_eq_true hc1) rfl ?_
    refine fr_aload_n (pc := 166) dX12_scores_166 rfl rfl ?_
    refine fr_getf (a := 142) (i := 42) (v := gI M 142 42) (t := 0) (pc := 167) dX12_scores_167 rfl pf_12_329 rfl s0_142 rfl rfl ?_
    refine fr_istore (ls2 := [(2, 142), (0, l1), z2, (0, l3), (0, l4), (0, gI M 142 42), z6, z7]) (pc := 170) dX12_scores_170 rfl (Nat.le_of_ble_eq_true rfl) rfl ?_
    refine fr_aload_n (pc := 172) dX12_scores_172 rfl rfl ?_
    refine fr_getf (a := 142) (i := 43) (v := gI M 142 43) (t := 0) (pc := 173) dX12_scores_173 rfl pf_12_332 rfl s0_142 rfl rfl ?_
    refine fr_istore (ls2 := [(2, 142), (0, l1), z2, (0, l3), (0, l4), (0, gI M 142 42), (0, gI M 142 43), z7]) (pc := 176) dX12_scores_176 rfl (Nat.le_of_ble_eq_true rfl) rfl ?_
    exact hq sc d hd (0, l1) pm_t0 z2 hz2 (0, l3) pm_t0 (0, l4) pm_t0 z7 hz7
  · refine fr_iload_n (pc := 90) dX12_scores_90 rfl rfl ?_
    refine fr_iconst (pc := 91) dX12_scores_91 (by decide) ?_
    refine fr_icm_ne (tg := 118) (pc := 92) dX12_scores_92 rfl hq (fun hc2 hq => ?_) (fun hc2 hq => ?_)
    · refine fr_aload_n (pc := 95) dX12_scores_95 rfl rfl ?_
      refine fr_iload_n (pc := 96) dX12_scores_96 rfl rfl ?_
      refine fr_iload_n (pc := 97) dX12_scores_97 rfl rfl ?_
      refine fr_imul (z := w32 (l3 * l3)) (pc := 98) dX12_scores_98 rfl ?_
      refine fr_put (a := 142) (i := 42) (pc := 99) dX12_scores_99 rfl pf_12_329 rfl s0_142 rfl rfl nf_142_42 rfl ?_
      refine fr_aload_n (pc := 102) dX12_scores_102 rfl rfl ?_
      refine fr_aload_n (pc := 103) dX12_scores_103 rfl rfl ?_
      refine fr_getf (a := 142) (i := 40) (v := gI M 142 40) (t := 0) (pc := 104) dX12_scores_104 rfl pf_12_317 rfl s0_142 rfl (gI_nf _ _ (by decide)) ?_
      refine fr_iload_n (pc := 107) dX12_scores_107 rfl rfl ?_
      refine fr_iload (pc := 108) dX12_scores_108 rfl rfl ?_
      refine fr_iadd (z := w32 (l3 + l4)) (pc := 110) dX12_scores_110 rfl ?_
      refine fr_imul (z := w32 ((gI M 142 40) * (w32 (l3 + l4)))) (pc := 111) dX12_scores_111 rfl ?_
      refine fr_put (a := 142) (i := 43) (pc := 112) dX12_scores_112 rfl pf_12_332 rfl s0_142 rfl rfl nf_142_43 rfl ?_
      refine fr_goto (tg := 166) (pc := 115) dX12_scores_115 rfl ?_
      refine fr_aload_n (pc := 166) dX12_scores_166 rfl rfl ?_
      refine fr_getf (a := 142) (i := 42) (v := w32 (l3 * l3)) (t := 0) (pc := 167) dX12_scores_167 rfl pf_12_329 rfl s0_142 rfl ((gI_nf _ _ (by decide)).trans (gI_eq _ _ _ _)) ?_
      refine fr_istore (ls2 := [(2, 142), (0, l1), z2, (0, l3), (0, l4), (0, w32 (l3 * l3)), z6, z7]) (pc := 170) dX12_scores_170 rfl (Nat.le_of_ble_eq_true rfl) rfl ?_
      refine fr_aload_n (pc := 172) dX12_scores_172 rfl rfl ?_
      refine fr_getf (a := 142) (i := 43) (v := w32 ((gI M 142 40) * (w32 (l3 + l4)))) (t := 0) (pc := 173) dX12_scores_173 rfl pf_12_332 rfl s0_142 rfl (gI_eq _ _ _ _) ?_
      refine fr_istore (ls2 := [(2, 142), (0, l1), z2, (0, l3), (0, l4), (0, w32 (l3 * l3)), (0, w32 ((gI M 142 40) * (w32 (l3 + l4)))), z7]) (pc := 176) dX12_scores_176 rfl (Nat.le_of_ble_eq_true rfl) rfl ?_
      exact hq sc d hd (0, l1) pm_t0 z2 hz2 (0, l3) pm_t0 (0, l4) pm_t0 z7 hz7
    · refine fr_iload_n (pc := 118) dX12_scores_118 rfl rfl ?_
      refine fr_ifcF (tg := 166) (pc := 119) dX12_scores_119 (decide_eq_false hc1) rfl ?_
      refine fr_iload (pc := 122) dX12_scores_122 rfl rfl ?_
      refine fr_aload_n (pc := 124) dX12_scores_124 rfl rfl ?_
      refine fr_getf (a := 142) (i := 40) (v := gI M 142 40) (t := 0) (pc := 125) dX12_scores_125 rfl pf_12_317 rfl s0_142 rfl rfl ?_
      refine fr_iadd (z := w32 (l4 + (gI M 142 40))) (pc := 128) dX12_scores_128 rfl ?_
      refine fr_iload_n (pc := 129) dX12_scores_129 rfl rfl ?_
      refine fr_isub (z := w32 ((w32 (l4 + (gI M 142 40))) - l3)) (pc := 130) dX12_scores_130 rfl ?_
      refine fr_istore (ls2 := [(2, 142), (0, l1), z2, (0, l3), (0, l4), (0, w32 ((w32 (l4 + (gI M 142 40))) - l3)), z6, z7]) (pc := 131) dX12_scores_131 rfl (Nat.le_of_ble_eq_true rfl) rfl ?_
      refine fr_aload_n (pc := 133) dX12_scores_133 rfl rfl ?_
      refine fr_iload (pc := 134) dX12_scores_134 rfl rfl ?_
      refine fr_ifc_ne (tg := 145) (pc := 136) dX12_scores_136 rfl hq (fun hc3 hq => ?_) (fun hc3 hq => ?_)
      · refine fr_sipush (pc := 139) dX12_scores_139 (by decide) ?_
        refine fr_goto (tg := 148) (pc := 142) dX12_scores_142 rfl ?_
        refine fr_put (a := 142) (i := 42) (pc := 148) dX12_scores_148 rfl pf_12_329 rfl s0_142 rfl rfl nf_142_42 rfl ?_
        refine fr_aload_n (pc := 151) dX12_scores_151 rfl rfl ?_
        refine fr_iload (pc := 152) dX12_scores_152 rfl rfl ?_
        refine fr_ifcF (tg := 161) (pc := 154) dX12_scores_154 (decide_eq_false (fun z => z hc3)) rfl ?_
        refine fr_iconst (pc := 157) dX12_scores_157 (by decide) ?_
        refine fr_goto (tg := 163) (pc := 158) dX12_scores_158 rfl ?_
        refine fr_put (a := 142) (i := 43) (pc := 163) dX12_scores_163 rfl pf_12_332 rfl s0_142 rfl rfl nf_142_43 rfl ?_
        refine fr_aload_n (pc := 166) dX12_scores_166 rfl rfl ?_
        refine fr_getf (a := 142) (i := 42) (v := 1000) (t := 0) (pc := 167) dX12_scores_167 rfl pf_12_329 rfl s0_142 rfl ((gI_nf _ _ (by decide)).trans (gI_eq _ _ _ _)) ?_
        refine fr_istore (ls2 := [(2, 142), (0, l1), z2, (0, l3), (0, l4), (0, 1000), z6, z7]) (pc := 170) dX12_scores_170 rfl (Nat.le_of_ble_eq_true rfl) rfl ?_
        refine fr_aload_n (pc := 172) dX12_scores_172 rfl rfl ?_
        refine fr_getf (a := 142) (i := 43) (v := 1) (t := 0) (pc := 173) dX12_scores_173 rfl pf_12_332 rfl s0_142 rfl (gI_eq _ _ _ _) ?_
        refine fr_istore (ls2 := [(2, 142), (0, l1), z2, (0, l3), (0, l4), (0, 1000), (0, 1), z7]) (pc := 176) dX12_scores_176 rfl (Nat.le_of_ble_eq_true rfl) rfl ?_
        exact hq sc d hd (0, l1) pm_t0 z2 hz2 (0, l3) pm_t0 (0, l4) pm_t0 z7 hz7
      · refine fr_iload_n (pc := 145) dX12_scores_145 rfl rfl ?_
        refine fr_iload_n (pc := 146) dX12_scores_146 rfl rfl ?_
        refine fr_imul (z := w32 (l3 * l3)) (pc := 147) dX12_scores_147 rfl ?_
        refine fr_put (a := 142) (i := 42) (pc := 148) dX12_scores_148 rfl pf_12_329 rfl s0_142 rfl rfl nf_142_42 rfl ?_
        refine fr_aload_n (pc := 151) dX12_scores_151 rfl rfl ?_
        refine fr_iload (pc := 152) dX12_scores_152 rfl rfl ?_
        refine fr_ifcT (tg := 161) (pc := 154) dX12_scores_154 (decide_eq_true hc3) rfl ?_
        refine fr_iload (pc := 161) dX12_scores_161 rfl rfl ?_
        refine fr_put (a := 142) (i := 43) (pc := 163) dX12_scores_163 rfl pf_12_332 rfl s0_142 rfl rfl nf_142_43 rfl ?_
        refine fr_aload_n (pc := 166) dX12_scores_166 rfl rfl ?_
        refine fr_getf (a := 142) (i := 42) (v := w32 (l3 * l3)) (t := 0) (pc := 167) dX12_scores_167 rfl pf_12_329 rfl s0_142 rfl ((gI_nf _ _ (by decide)).trans (gI_eq _ _ _ _)) ?_
        refine fr_istore (ls2 := [(2, 142), (0, l1), z2, (0, l3), (0, l4), (0, w32 (l3 * l3)), z6, z7]) (pc := 170) dX12_scores_170 rfl (Nat.le_of_ble_eq_true rfl) rfl ?_
        refine fr_aload_n (pc := 172) dX12_scores_172 rfl rfl ?_
        refine fr_getf (a := 142) (i := 43) (v := w32 ((w32 (l4 + (gI M 142 40))) - l3)) (t := 0) (pc := 173) dX12_scores_173 rfl pf_12_332 rfl s0_142 rfl (gI_eq _ _ _ _) ?_
        refine fr_istore (ls2 := [(2, 142), (0, l1), z2, (0, l3), (0, l4), (0, w32 (l3 * l3)), (0, w32 ((w32 (l4 + (gI M 142 40))) - l3)), z7]) (pc := 176) dX12_scores_176 rfl (Nat.le_of_ble_eq_true rfl) rfl ?_
        exact hq sc d hd (0, l1) pm_t0 z2 hz2 (0, l3) pm_t0 (0, l4) pm_t0 z7 hz7
theorem k12_scores_178_r {l5 l6 : Int} {M : pm_M} {K : pm_M → Prop} (hq : (if l6 = 0 then (¬ l5 = 0 ∧ K (upI (upI M 142 42 (w32 ((gI M 142 42).tdiv l5))) 142 43 (w32 ((gI M 142 43).tdiv l5)))) else k12_scores_178 l6 (l5.tmod l6) M K)) : k12_scores_178 l5 l6 M K := by
  intro sc d hd z1 hz1 z2 hz2 z3 hz3 z4 hz4 z7 hz7
  refine fr_iload (pc := 178) dX12_scores_178 rfl rfl ?_
  refine fr_ifc_eq (tg := 201) (pc := 180) dX12_scores_180 rfl hq (fun hc1 hq => ?_) (fun hc1 hq => ?_)
  · refine fr_aload_n (pc := 201) dX12_scores_201 rfl rfl ?_
    refine fr_dup (pc := 202) dX12_scores_202 pm_t2 ?_
    refine fr_getf (a := 142) (i := 42) (v := gI M 142 42) (t := 0) (pc := 203) dX12_scores_203 rfl pf_12_329 rfl s0_142 rfl rfl ?_
    refine fr_iload (pc := 206) dX12_scores_206 rfl rfl ?_
    obtain ⟨hb2, hq⟩ := hq
    refine fr_idiv (pc := 208) dX12_scores_208 hb2 ?_
    refine fr_put (a := 142) (i := 42) (pc := 209) dX12_scores_209 rfl pf_12_329 rfl s0_142 rfl rfl nf_142_42 rfl ?_
    refine fr_aload_n (pc := 212) dX12_scores_212 rfl rfl ?_
    refine fr_dup (pc := 213) dX12_scores_213 pm_t2 ?_
    refine fr_getf (a := 142) (i := 43) (v := gI M 142 43) (t := 0) (pc := 214) dX12_scores_214 rfl pf_12_332 rfl s0_142 rfl (gI_nf _ _ (by decide)) ?_
    refine fr_iload (pc := 217) dX12_scores_217 rfl rfl ?_
    refine fr_idiv (pc := 219) dX12_scores_219 hb2 ?_
    refine fr_put (a := 142) (i := 43) (pc := 220) dX12_scores_220 rfl pf_12_332 rfl s0_142 rfl rfl nf_142_43 rfl ?_
    exact fr_vret (pc := 223) dX12_scores_223 rfl hq
  · refine fr_iload (pc := 183) dX12_scores_183 rfl rfl ?_
    refine fr_iload (pc := 185) dX12_scores_185 rfl rfl ?_
    refine fr_irem (pc := 187) dX12_scores_187 hc1 ?_
    refine fr_istore (ls2 := [(2, 142), z1, z2, z3, z4, (0, l5), (0, l6), (0, l5.tmod l6)]) (pc := 188) dX12_scores_188 rfl (Nat.le_of_ble_eq_true rfl) rfl ?_
    refine fr_iload (pc := 190) dX12_scores_190 rfl rfl ?_
    refine fr_istore (ls2 := [(2, 142), z1, z2, z3, z4, (0, l6), (0, l6), (0, l5.tmod l6)]) (pc := 192) dX12_scores_192 rfl (Nat.le_of_ble_eq_true rfl) (pm_st1z hz4 rfl rfl) ?_
    refine fr_iload (pc := 194) dX12_scores_194 rfl rfl ?_
    refine fr_istore (ls2 := [(2, 142), z1, z2, z3, z4, (0, l6), (0, l5.tmod l6), (0, l5.tmod l6)]) (pc := 196) dX12_scores_196 rfl (Nat.le_of_ble_eq_true rfl) rfl ?_
    refine fr_goto (tg := 178) (pc := 198) dX12_scores_198 rfl ?_
    exact hq sc d hd z1 hz1 z2 hz2 z3 hz3 z4 hz4 (0, l5.tmod l6) pm_t0
theorem k12_suspect_r {a1 a2 : Int} {M : pm_M} {K : Int → pm_M → Prop} (hq : (if a1 < 0 then K (-1) (upI M 142 0 0) else (if a1 ≤ 2 then (if a2 < 0 then K (-1) (upI M 142 0 0) else (if a2 ≤ w32 ((gI M 144 1) - 1) then k12_laysRanked a1 (upI M 142 0 0) (fun r6 M5 => ((0 ≤ a2 ∧ a2 < 20) ∧ K (gI M5 161 a2) M5)) else K (-1) (upI M 142 0 0))) else K (-1) (upI M 142 0 0)))) : k12_suspect a1 a2 M K := by
  intro sc d hd
  refine fr_aload_n (pc := 0) dX12_suspect_0 rfl rfl ?_
  refine fr_iconst (pc := 1) dX12_suspect_1 (by decide) ?_
  refine fr_put (a := 142) (i := 0) (pc := 2) dX12_suspect_2 rfl pf_12_121 rfl s0_142 rfl rfl nf_142_0 rfl ?_
  refine fr_iload_n (pc := 5) dX12_suspect_5 rfl rfl ?_
  refine fr_iconst (pc := 6) dX12_suspect_6 (by decide) ?_
  refine fr_iconst (pc := 7) dX12_suspect_7 (by decide) ?_
  refine fr_inSI (as := [(0, a1), (0, 0), (0, 2)]) (rest := []) (ls' := [(0, a1), (0, 0), (0, 2)]) (c1 := 0) (c2 := 0) (pc := 8) dX12_suspect_8 pl_12_147 rfl ⟨Nat.le_of_ble_eq_true rfl, Nat.le_of_ble_eq_true rfl⟩ rfl rfl  (by omega) rfl rfl (pm_zc _) ?_ (fun y M' h => h)
  refine fr_iload_n (pc := 0) dX12_within_0 rfl rfl ?_
  refine fr_iload_n (pc := 1) dX12_within_1 rfl rfl ?_
  refine fr_icm_lt (tg := 14) (pc := 2) dX12_within_2 rfl hq (fun hc1 hq => ?_) (fun hc1 hq => ?_)
  · refine fr_iconst (pc := 14) dX12_within_14 (by decide) ?_
    refine fr_iret (pc := 15) dX12_within_15 (Or.inr (Or.inl ⟨rfl, Or.inl rfl⟩)) ?_
    refine fr_ifcT (tg := 30) (pc := 11) dX12_suspect_11 rfl rfl ?_
    refine fr_iconst (pc := 30) dX12_suspect_30 (by decide) ?_
    exact fr_iret (pc := 31) dX12_suspect_31 (Or.inl rfl) hq
  · refine fr_iload_n (pc := 5) dX12_within_5 rfl rfl ?_
    refine fr_iload_n (pc := 6) dX12_within_6 rfl rfl ?_
    refine fr_icm_gt (tg := 14) (pc := 7) dX12_within_7 rfl hq (fun hc2 hq => ?_) (fun hc2 hq => ?_)
    · refine fr_iconst (pc := 10) dX12_within_10 (by decide) ?_
      refine fr_goto (tg := 15) (pc := 11) dX12_within_11 rfl ?_
      refine fr_iret (pc := 15) dX12_within_15 (Or.inr (Or.inl ⟨rfl, Or.inr rfl⟩)) ?_
      refine fr_ifcF (tg := 30) (pc := 11) dX12_suspect_11 rfl rfl ?_
      refine fr_iload_n (pc := 14) dX12_suspect_14 rfl rfl ?_
      refine fr_iconst (pc := 15) dX12_suspect_15 (by decide) ?_
      refine fr_aload_n (pc := 16) dX12_suspect_16 rfl rfl ?_
      refine fr_getr (a := 142) (pc := 17) dX12_suspect_17 rfl pf_12_13 s0_142 rfl rf_142_9 ?_
      refine fr_iconst (pc := 20) dX12_suspect_20 (by decide) ?_
      refine fr_iaload (a := 144) (v := gI M 144 1) (pc := 21) dX12_suspect_21 rfl s0_144 (by decide) (gI_ne _ _ _ _ (by decide)) ?_
      refine fr_iconst (pc := 22) dX12_suspect_22 (by decide) ?_
      refine fr_isub (z := w32 ((gI M 144 1) - 1)) (pc := 23) dX12_suspect_23 rfl ?_
      refine fr_inSI (as := [(0, a2), (0, 0), (0, w32 ((gI M 144 1) - 1))]) (rest := []) (ls' := [(0, a2), (0, 0), (0, w32 ((gI M 144 1) - 1))]) (c1 := 0) (c2 := 0) (pc := 24) dX12_suspect_24 pl_12_147 rfl ⟨Nat.le_of_ble_eq_true rfl, Nat.le_of_ble_eq_true rfl⟩ rfl rfl  (by omega) rfl rfl (pm_zc _) ?_ (fun y M' h => h)
      refine fr_iload_n (pc := 0) dX12_within_0 rfl rfl ?_
      refine fr_iload_n (pc := 1) dX12_within_1 rfl rfl ?_
      refine fr_icm_lt (tg := 14) (pc := 2) dX12_within_2 rfl hq (fun hc3 hq => ?_) (fun hc3 hq => ?_)
      · refine fr_iconst (pc := 14) dX12_within_14 (by decide) ?_
        refine fr_iret (pc := 15) dX12_within_15 (Or.inr (Or.inl ⟨rfl, Or.inl rfl⟩)) ?_
        refine fr_ifcF (tg := 32) (pc := 27) dX12_suspect_27 rfl rfl ?_
        refine fr_iconst (pc := 30) dX12_suspect_30 (by decide) ?_
        exact fr_iret (pc := 31) dX12_suspect_31 (Or.inl rfl) hq
      · refine fr_iload_n (pc := 5) dX12_within_5 rfl rfl ?_
        refine fr_iload_n (pc := 6) dX12_within_6 rfl rfl ?_
        refine fr_icm_gt (tg := 14) (pc := 7) dX12_within_7 rfl hq (fun hc4 hq => ?_) (fun hc4 hq => ?_)
        · refine fr_iconst (pc := 10) dX12_within_10 (by decide) ?_
          refine fr_goto (tg := 15) (pc := 11) dX12_within_11 rfl ?_
          refine fr_iret (pc := 15) dX12_within_15 (Or.inr (Or.inl ⟨rfl, Or.inr rfl⟩)) ?_
          refine fr_ifcT (tg := 32) (pc := 27) dX12_suspect_27 rfl rfl ?_
          refine fr_aload_n (pc := 32) dX12_suspect_32 rfl rfl ?_
          refine fr_iload_n (pc := 33) dX12_suspect_33 rfl rfl ?_
          refine fr_inVI (a := 142) (as := [(0, a1)]) (rest := []) (ls' := [(2, 142), (0, a1), (9, 0), (9, 0), (9, 0)]) (c1 := 0) (c2 := 0) (pc := 34) dX12_suspect_34 pl_12_342 rfl ⟨Nat.le_of_ble_eq_true rfl, Nat.le_of_ble_eq_true rfl⟩ rfl rfl rfl s0_142 (Nat.le_of_ble_eq_true rfl) (by omega) rfl rfl (pm_zc _) (hq sc _ (by omega)) (fun r6 M5 hq => ?_)
          refine fr_istore_n (ls2 := [(2, 142), (0, a1), (0, a2), (0, r6)]) (pc := 37) dX12_suspect_37 rfl (Nat.le_of_ble_eq_true rfl) rfl ?_
          refine fr_aload_n (pc := 38) dX12_suspect_38 rfl rfl ?_
          refine fr_getr (a := 142) (pc := 39) dX12_suspect_39 rfl pf_12_72 s0_142 rfl rf_142_44 ?_
          refine fr_iload_n (pc := 42) dX12_suspect_42 rfl rfl ?_
          obtain ⟨hb7, hq⟩ := hq
          refine fr_iaload (a := 161) (v := gI M5 161 a2) (pc := 43) dX12_suspect_43 rfl s0_161 hb7 rfl ?_
          exact fr_iret (pc := 44) dX12_suspect_44 (Or.inl rfl) hq
        · refine fr_iconst (pc := 14) dX12_within_14 (by decide) ?_
          refine fr_iret (pc := 15) dX12_within_15 (Or.inr (Or.inl ⟨rfl, Or.inl rfl⟩)) ?_
          refine fr_ifcF (tg := 32) (pc := 27) dX12_suspect_27 rfl rfl ?_
          refine fr_iconst (pc := 30) dX12_suspect_30 (by decide) ?_
          exact fr_iret (pc := 31) dX12_suspect_31 (Or.inl rfl) hq
    · refine fr_iconst (pc := 14) dX12_within_14 (by decide) ?_
      refine fr_iret (pc := 15) dX12_within_15 (Or.inr (Or.inl ⟨rfl, Or.inl rfl⟩)) ?_
      refine fr_ifcT (tg := 30) (pc := 11) dX12_suspect_11 rfl rfl ?_
      refine fr_iconst (pc := 30) dX12_suspect_30 (by decide) ?_
      exact fr_iret (pc := 31) dX12_suspect_31 (Or.inl rfl) hq
theorem k12_laysRanked_r {a1 : Int} {M : pm_M} {K : Int → pm_M → Prop} (hq : k12_laysSpectra M (fun M1 => k12_laysRanked_8 a1 0 0 M1 K)) : k12_laysRanked a1 M K := by
  intro sc d hd
  refine fr_aload_n (pc := 0) dX12_laysRanked_0 rfl rfl ?_
  refine fr_inVV (a := 142) (as := []) (rest := []) (ls' := [(2, 142), (9, 0), (9, 0), (9, 0)]) (c1 := 0) (c2 := 0) (pc := 1) dX12_laysRanked_1 pl_12_326 rfl ⟨Nat.le_of_ble_eq_true rfl, Nat.le_of_ble_eq_true rfl⟩ rfl rfl rfl s0_142 (Nat.le_of_ble_eq_true rfl) (by omega) rfl rfl (pm_zc _) (hq sc _ (by omega)) (fun M1 hq => ?_)
  refine fr_iconst (pc := 4) dX12_laysRanked_4 (by decide) ?_
  refine fr_istore_n (ls2 := [(2, 142), (0, a1), (0, 0), (9, 0), (9, 0)]) (pc := 5) dX12_laysRanked_5 rfl (Nat.le_of_ble_eq_true rfl) rfl ?_
  refine fr_iconst (pc := 6) dX12_laysRanked_6 (by decide) ?_
  refine fr_istore_n (ls2 := [(2, 142), (0, a1), (0, 0), (0, 0), (9, 0)]) (pc := 7) dX12_laysRanked_7 rfl (Nat.le_of_ble_eq_true rfl) rfl ?_
  exact hq sc d hd (9, 0) pm_t9
theorem k12_laysRanked_8_r {l1 l2 l3 : Int} {M : pm_M} {K : Int → pm_M → Prop} (hq : (if l3 < gI M 144 0 then (if l3 < 0 then k12_laysRanked_8 l1 l2 (w32 (l3 + 1)) M K else (if l3 ≤ w32 ((gI M 144 0) - 1) then ((0 ≤ l3 ∧ l3 < 800) ∧ (if gI M 145 l3 ≤ 3 then k12_laysRanked_29 l1 l2 l3 l2 M K else k12_laysRanked_8 l1 l2 (w32 (l3 + 1)) M K)) else k12_laysRanked_8 l1 l2 (w32 (l3 + 1)) M K)) else K l2 M)) : k12_laysRanked_8 l1 l2 l3 M K := by
  intro sc d hd z4 hz4
  refine fr_iload_n (pc := 8) dX12_laysRanked_8 rfl rfl ?_
  refine fr_aload_n (pc := 9) dX12_laysRanked_9 rfl rfl ?_
  refine fr_getr (a := 142) (pc := 10) dX12_laysRanked_10 rfl pf_12_13 s0_142 rfl rf_142_9 ?_
  refine fr_iconst (pc := 13) dX12_laysRanked_13 (by decide) ?_
  refine fr_iaload (a := 144) (v := gI M 144 0) (pc := 14) dX12_laysRanked_14 rfl s0_144 (by decide) rfl ?_
  refine fr_icm_ge (tg := 91) (pc := 15) dX12_laysRanked_15 rfl hq (fun hc1 hq => ?_) (fun hc1 hq => ?_)
  · refine fr_aload_n (pc := 18) dX12_laysRanked_18 rfl rfl ?_
    refine fr_iload_n (pc := 19) dX12_laysRanked_19 rfl rfl ?_
    refine fr_inVI (a := 142) (as := [(0, l3)]) (rest := []) (ls' := [(2, 142), (0, l3)]) (c1 := 0) (c2 := 0) (pc := 20) dX12_laysRanked_20 pl_12_308 rfl ⟨Nat.le_of_ble_eq_true rfl, Nat.le_of_ble_eq_true rfl⟩ rfl rfl rfl s0_142 (Nat.le_of_ble_eq_true rfl) (by omega) rfl rfl (pm_zc _) ?_ (fun y M' h => h)
    refine fr_aload_n (pc := 0) dX12_isStatement_0 rfl rfl ?_
    refine fr_iload_n (pc := 1) dX12_isStatement_1 rfl rfl ?_
    refine fr_inVI (a := 142) (as := [(0, l3)]) (rest := []) (ls' := [(2, 142), (0, l3)]) (c1 := 0) (c2 := 0) (pc := 2) dX12_isStatement_2 pl_12_305 rfl ⟨Nat.le_of_ble_eq_true rfl, Nat.le_of_ble_eq_true rfl⟩ rfl rfl rfl s0_142 (Nat.le_of_ble_eq_true rfl) (by omega) rfl rfl (pm_zc _) ?_ (fun y M' h => h)
    refine fr_iload_n (pc := 0) dX12_isNode_0 rfl rfl ?_
    refine fr_iconst (pc := 1) dX12_isNode_1 (by decide) ?_
    refine fr_aload_n (pc := 2) dX12_isNode_2 rfl rfl ?_
    refine fr_getr (a := 142) (pc := 3) dX12_isNode_3 rfl pf_12_13 s0_142 rfl rf_142_9 ?_
    refine fr_iconst (pc := 6) dX12_isNode_6 (by decide) ?_
    refine fr_iaload (a := 144) (v := gI M 144 0) (pc := 7) dX12_isNode_7 rfl s0_144 (by decide) rfl ?_
    refine fr_iconst (pc := 8) dX12_isNode_8 (by decide) ?_
    refine fr_isub (z := w32 ((gI M 144 0) - 1)) (pc := 9) dX12_isNode_9 rfl ?_
    refine fr_inSI (as := [(0, l3), (0, 0), (0, w32 ((gI M 144 0) - 1))]) (rest := []) (ls' := [(0, l3), (0, 0), (0, w32 ((gI M 144 0) - 1))]) (c1 := 0) (c2 := 0) (pc := 10) dX12_isNode_10 pl_12_147 rfl ⟨Nat.le_of_ble_eq_true rfl, Nat.le_of_ble_eq_true rfl⟩ rfl rfl  (by omega) rfl rfl (pm_zc _) ?_ (fun y M' h => h)
    refine fr_iload_n (pc := 0) dX12_within_0 rfl rfl ?_
    refine fr_iload_n (pc := 1) dX12_within_1 rfl rfl ?_
    refine fr_icm_lt (tg := 14) (pc := 2) dX12_within_2 rfl hq (fun hc2 hq => ?_) (fun hc2 hq => ?_)
    · refine fr_iconst (pc := 14) dX12_within_14 (by decide) ?_
      refine fr_iret (pc := 15) dX12_within_15 (Or.inr (Or.inl ⟨rfl, Or.inl rfl⟩)) ?_
      refine fr_iret (pc := 13) dX12_isNode_13 (Or.inr (Or.inl ⟨rfl, Or.inl rfl⟩)) ?_
      refine fr_ifcT (tg := 22) (pc := 5) dX12_isStatement_5 rfl rfl ?_
      refine fr_iconst (pc := 22) dX12_isStatement_22 (by decide) ?_
      refine fr_iret (pc := 23) dX12_isStatement_23 (Or.inr (Or.inl ⟨rfl, Or.inl rfl⟩)) ?_
      refine fr_ifcT (tg := 85) (pc := 23) dX12_laysRanked_23 rfl rfl ?_
      refine fr_iinc (z := w32 (l3 + 1)) (ls2 := [(2, 142), (0, l1), (0, l2), (0, w32 (l3 + 1)), z4]) (pc := 85) dX12_laysRanked_85 (Nat.le_of_ble_eq_true rfl) rfl rfl rfl ?_
      refine fr_goto (tg := 8) (pc := 88) dX12_laysRanked_88 rfl ?_
      exact hq sc d hd z4 hz4
    · refine fr_iload_n (pc := 5) dX12_within_5 rfl rfl ?_
      refine fr_iload_n (pc := 6) dX12_within_6 rfl rfl ?_
      refine fr_icm_gt (tg := 14) (pc := 7) dX12_within_7 rfl hq (fun hc3 hq => ?_) (fun hc3 hq => ?_)
      · refine fr_iconst (pc := 10) dX12_within_10 (by decide) ?_
        refine fr_goto (tg := 15) (pc := 11) dX12_within_11 rfl ?_
        refine fr_iret (pc := 15) dX12_within_15 (Or.inr (Or.inl ⟨rfl, Or.inr rfl⟩)) ?_
        refine fr_iret (pc := 13) dX12_isNode_13 (Or.inr (Or.inl ⟨rfl, Or.inr rfl⟩)) ?_
        refine fr_ifcF (tg := 22) (pc := 5) dX12_isStatement_5 rfl rfl ?_
        refine fr_aload_n (pc := 8) dX12_isStatement_8 rfl rfl ?_
        refine fr_getr (a := 142) (pc := 9) dX12_isStatement_9 rfl pf_12_17 s0_142 rfl rf_142_10 ?_
        refine fr_iload_n (pc := 12) dX12_isStatement_12 rfl rfl ?_
        obtain ⟨hb4, hq⟩ := hq
        refine fr_iaload (a := 145) (v := gI M 145 l3) (pc := 13) dX12_isStatement_13 rfl s0_145 hb4 rfl ?_
        refine fr_iconst (pc := 14) dX12_isStatement_14 (by decide) ?_
        refine fr_icm_gt (tg := 22) (pc := 15) dX12_isStatement_15 rfl hq (fun hc5 hq => ?_) (fun hc5 hq => ?_)
        · refine fr_iconst (pc := 18) dX12_isStatement_18 (by decide) ?_
          refine fr_goto (tg := 23) (pc := 19) dX12_isStatement_19 rfl ?_
          refine fr_iret (pc := 23) dX12_isStatement_23 (Or.inr (Or.inl ⟨rfl, Or.inr rfl⟩)) ?_
          refine fr_ifcF (tg := 85) (pc := 23) dX12_laysRanked_23 rfl rfl ?_
          refine fr_iload_n (pc := 26) dX12_laysRanked_26 rfl rfl ?_
          refine fr_istore (ls2 := [(2, 142), (0, l1), (0, l2), (0, l3), (0, l2)]) (pc := 27) dX12_laysRanked_27 rfl (Nat.le_of_ble_eq_true rfl) rfl ?_
          exact hq sc d hd
        · refine fr_iconst (pc := 22) dX12_isStatement_22 (by decide) ?_
          refine fr_iret (pc := 23) dX12_isStatement_23 (Or.inr (Or.inl ⟨rfl, Or.inl rfl⟩)) ?_
          refine fr_ifcT (tg := 85) (pc := 23) dX12_laysRanked_23 rfl rfl ?_
          refine fr_iinc (z := w32 (l3 + 1)) (ls2 := [(2, 142), (0, l1), (0, l2), (0, w32 (l3 + 1)), z4]) (pc := 85) dX12_laysRanked_85 (Nat.le_of_ble_eq_true rfl) rfl rfl rfl ?_
          refine fr_goto (tg := 8) (pc := 88) dX12_laysRanked_88 rfl ?_
          exact hq sc d hd z4 hz4
      · refine fr_iconst (pc := 14) dX12_within_14 (by decide) ?_
        refine fr_iret (pc := 15) dX12_within_15 (Or.inr (Or.inl ⟨rfl, Or.inl rfl⟩)) ?_
        refine fr_iret (pc := 13) dX12_isNode_13 (Or.inr (Or.inl ⟨rfl, Or.inl rfl⟩)) ?_
        refine fr_ifcT (tg := 22) (pc := 5) dX12_isStatement_5 rfl rfl ?_
        refine fr_iconst (pc := 22) dX12_isStatement_22 (by decide) ?_
        refine fr_iret (pc := 23) dX12_isStatement_23 (Or.inr (Or.inl ⟨rfl, Or.inl rfl⟩)) ?_
        refine fr_ifcT (tg := 85) (pc := 23) dX12_laysRanked_23 rfl rfl ?_
        refine fr_iinc (z := w32 (l3 + 1)) (ls2 := [(2, 142), (0, l1), (0, l2), (0, w32 (l3 + 1)), z4]) (pc := 85) dX12_laysRanked_85 (Nat.le_of_ble_eq_true rfl) rfl rfl rfl ?_
        refine fr_goto (tg := 8) (pc := 88) dX12_laysRanked_88 rfl ?_
        exact hq sc d hd z4 hz4
  · refine fr_iload_n (pc := 91) dX12_laysRanked_91 rfl rfl ?_
    exact fr_iret (pc := 92) dX12_laysRanked_92 (Or.inl rfl) hq
theorem k12_laysRanked_29_r {l1 l2 l3 l4 : Int} {M : pm_M} {K : Int → pm_M → Prop} (hq : (if l4 ≤ 0 then ((0 ≤ l4 ∧ l4 < 20) ∧ k12_laysRanked_8 l1 (w32 (l2 + 1)) (w32 (l3 + 1)) (upI M 161 l4 l3) K) else ((0 ≤ w32 (l4 - 1) ∧ w32 (l4 - 1) < 20) ∧ k12_isAhead l1 l3 (gI M 161 (w32 (l4 - 1))) M (fun r5 M4 => (if r5 = 0 then ((0 ≤ l4 ∧ l4 < 20) ∧ k12_laysRanked_8 l1 (w32 (l2 + 1)) (w32 (l3 + 1)) (upI M4 161 l4 l3) K) else ((0 ≤ l4 ∧ l4 < 20) ∧ k12_laysRanked_29 l1 l2 l3 (w32 (l4 + (-1))) (upI M4 161 l4 (gI M4 161 (w32 (l4 - 1)))) K)))))) : k12_laysRanked_29 l1 l2 l3 l4 M K := by
  intro sc d hd
  refine fr_iload (pc := 29) dX12_laysRanked_29 rfl rfl ?_
  refine fr_ifc_le (tg := 74) (pc := 31) dX12_laysRanked_31 rfl hq (fun hc1 hq => ?_) (fun hc1 hq => ?_)
  · refine fr_aload_n (pc := 74) dX12_laysRanked_74 rfl rfl ?_
    refine fr_getr (a := 142) (pc := 75) dX12_laysRanked_75 rfl pf_12_72 s0_142 rfl rf_142_44 ?_
    refine fr_iload (pc := 78) dX12_laysRanked_78 rfl rfl ?_
    refine fr_iload_n (pc := 80) dX12_laysRanked_80 rfl rfl ?_
    obtain ⟨hb2, hq⟩ := hq
    refine fr_iastore (a := 161) (pc := 81) dX12_laysRanked_81 rfl s0_161 hb2 nr_161 ?_
    refine fr_iinc (z := w32 (l2 + 1)) (ls2 := [(2, 142), (0, l1), (0, w32 (l2 + 1)), (0, l3), (0, l4)]) (pc := 82) dX12_laysRanked_82 (Nat.le_of_ble_eq_true rfl) rfl rfl rfl ?_
    refine fr_iinc (z := w32 (l3 + 1)) (ls2 := [(2, 142), (0, l1), (0, w32 (l2 + 1)), (0, w32 (l3 + 1)), (0, l4)]) (pc := 85) dX12_laysRanked_85 (Nat.le_of_ble_eq_true rfl) rfl rfl rfl ?_
    refine fr_goto (tg := 8) (pc := 88) dX12_laysRanked_88 rfl ?_
    exact hq sc d hd (0, l4) pm_t0
  · refine fr_aload_n (pc := 34) dX12_laysRanked_34 rfl rfl ?_
    refine fr_iload_n (pc := 35) dX12_laysRanked_35 rfl rfl ?_
    refine fr_iload_n (pc := 36) dX12_laysRanked_36 rfl rfl ?_
    refine fr_aload_n (pc := 37) dX12_laysRanked_37 rfl rfl ?_
    refine fr_getr (a := 142) (pc := 38) dX12_laysRanked_38 rfl pf_12_72 s0_142 rfl rf_142_44 ?_
    refine fr_iload (pc := 41) dX12_laysRanked_41 rfl rfl ?_
    refine fr_iconst (pc := 43) dX12_laysRanked_43 (by decide) ?_
    refine fr_isub (z := w32 (l4 - 1)) (pc := 44) dX12_laysRanked_44 rfl ?_
    obtain ⟨hb3, hq⟩ := hq
    refine fr_iaload (a := 161) (v := gI M 161 (w32 (l4 - 1))) (pc := 45) dX12_laysRanked_45 rfl s0_161 hb3 rfl ?_
    refine fr_inVI (a := 142) (as := [(0, l1), (0, l3), (0, gI M 161 (w32 (l4 - 1)))]) (rest := []) (ls' := [(2, 142), (0, l1), (0, l3), (0, gI M 161 (w32 (l4 - 1))), (9, 0), (9, 0)]) (c1 := 0) (c2 := 0) (pc := 46) dX12_laysRanked_46 pl_12_339 rfl ⟨Nat.le_of_ble_eq_true rfl, Nat.le_of_ble_eq_true rfl⟩ rfl rfl rfl s0_142 (Nat.le_of_ble_eq_true rfl) (by omega) rfl rfl (pm_zc _) (hq sc _ (by omega)) (fun r5 M4 hq => ?_)
    refine fr_ifc_eq (tg := 74) (pc := 49) dX12_laysRanked_49 rfl hq (fun hc6 hq => ?_) (fun hc6 hq => ?_)
    · refine fr_aload_n (pc := 74) dX12_laysRanked_74 rfl rfl ?_
      refine fr_getr (a := 142) (pc := 75) dX12_laysRanked_75 rfl pf_12_72 s0_142 rfl rf_142_44 ?_
      refine fr_iload (pc := 78) dX12_laysRanked_78 rfl rfl ?_
      refine fr_iload_n (pc := 80) dX12_laysRanked_80 rfl rfl ?_
      obtain ⟨hb7, hq⟩ := hq
      refine fr_iastore (a := 161) (pc := 81) dX12_laysRanked_81 rfl s0_161 hb7 nr_161 ?_
      refine fr_iinc (z := w32 (l2 + 1)) (ls2 := [(2, 142), (0, l1), (0, w32 (l2 + 1)), (0, l3), (0, l4)]) (pc := 82) dX12_laysRanked_82 (Nat.le_of_ble_eq_true rfl) rfl rfl rfl ?_
      refine fr_iinc (z := w32 (l3 + 1)) (ls2 := [(2, 142), (0, l1), (0, w32 (l2 + 1)), (0, w32 (l3 + 1)), (0, l4)]) (pc := 85) dX12_laysRanked_85 (Nat.le_of_ble_eq_true rfl) rfl rfl rfl ?_
      refine fr_goto (tg := 8) (pc := 88) dX12_laysRanked_88 rfl ?_
      exact hq sc d hd (0, l4) pm_t0
    · refine fr_aload_n (pc := 52) dX12_laysRanked_52 rfl rfl ?_
      refine fr_getr (a := 142) (pc := 53) dX12_laysRanked_53 rfl pf_12_72 s0_142 rfl rf_142_44 ?_
      refine fr_iload (pc := 56) dX12_laysRanked_56 rfl rfl ?_
      refine fr_aload_n (pc := 58) dX12_laysRanked_58 rfl rfl ?_
      refine fr_getr (a := 142) (pc := 59) dX12_laysRanked_59 rfl pf_12_72 s0_142 rfl rf_142_44 ?_
      refine fr_iload (pc := 62) dX12_laysRanked_62 rfl rfl ?_
      refine fr_iconst (pc := 64) dX12_laysRanked_64 (by decide) ?_
      refine fr_isub (z := w32 (l4 - 1)) (pc := 65) dX12_laysRanked_65 rfl ?_
      refine fr_iaload (a := 161) (v := gI M4 161 (w32 (l4 - 1))) (pc := 66) dX12_laysRanked_66 rfl s0_161 hb3 rfl ?_
      obtain ⟨hb8, hq⟩ := hq
      refine fr_iastore (a := 161) (pc := 67) dX12_laysRanked_67 rfl s0_161 hb8 nr_161 ?_
      refine fr_iinc (z := w32 (l4 + (-1))) (ls2 := [(2, 142), (0, l1), (0, l2), (0, l3), (0, w32 (l4 + (-1)))]) (pc := 68) dX12_laysRanked_68 (Nat.le_of_ble_eq_true rfl) rfl rfl rfl ?_
      refine fr_goto (tg := 29) (pc := 71) dX12_laysRanked_71 rfl ?_
      exact hq sc d hd

-- needs 30 31 32
theorem k12_values_r {a1 a2 : Int} {M : pm_M} {K : Int → pm_M → Prop} (hq : (if a1 < 0 then K (-200) (upI M 142 0 0) else (if a1 ≤ w32 ((gI M 144 0) - 1) then ((0 ≤ a1 ∧ a1 < 800) ∧ (if gI M 145 a1 = 4 then k12_isGone a1 (upI M 142 0 0) (fun r6 M5 => (if r6 = 0 then (if a2 < 0 then K (-200) M5 else (if a2 ≤ 3 then k12_values_73 a1 a2 (gI M5 146 a1) 0 (-200) (-200) (-200) (-99) M5 K else K (-200) M5)) else K (-200) M5)) else K (-200) (upI M 142 0 0))) else K (-200) (upI M 142 0 0)))) : k12_values a1 a2 M K := by
  intro sc d hd
  refine fr_aload_n (pc := 0) dX12_values_0 rfl rfl ?_
  refine fr_iconst (pc := 1) dX12_values_1 (by decide) ?_
  refine fr_put (a := 142) (i := 0) (pc := 2) dX12_values_2 rfl pf_12_121 rfl s0_142 rfl rfl nf_142_0 rfl ?_
  refine fr_aload_n (pc := 5) dX12_values_5 rfl rfl ?_
  refine fr_iload_n (pc := 6) dX12_values_6 rfl rfl ?_
  refine fr_inVI (a := 142) (as := [(0, a1)]) (rest := []) (ls' := [(2, 142), (0, a1)]) (c1 := 0) (c2 := 0) (pc := 7) dX12_values_7 pl_12_305 rfl ⟨Nat.le_of_ble_eq_true rfl, Nat.le_of_ble_eq_true rfl⟩ rfl rfl rfl s0_142 (Nat.le_of_ble_eq_true rfl) (by omega) rfl rfl (pm_zc _) ?_ (fun y M' h => h)
  refine fr_iload_n (pc := 0) dX12_isNode_0 rfl rfl ?_
  refine fr_iconst (pc := 1) dX12_isNode_1 (by decide) ?_
  refine fr_aload_n (pc := 2) dX12_isNode_2 rfl rfl ?_
  refine fr_getr (a := 142) (pc := 3) dX12_isNode_3 rfl pf_12_13 s0_142 rfl rf_142_9 ?_
  refine fr_iconst (pc := 6) dX12_isNode_6 (by decide) ?_
  refine fr_iaload (a := 144) (v := gI M 144 0) (pc := 7) dX12_isNode_7 rfl s0_144 (by decide) (gI_ne _ _ _ _ (by decide)) ?_
  refine fr_iconst (pc := 8) dX12_isNode_8 (by decide) ?_
  refine fr_isub (z := w32 ((gI M 144 0) - 1)) (pc := 9) dX12_isNode_9 rfl ?_
  refine fr_inSI (as := [(0, a1), (0, 0), (0, w32 ((gI M 144 0) - 1))]) (rest := []) (ls' := [(0, a1), (0, 0), (0, w32 ((gI M 144 0) - 1))]) (c1 := 0) (c2 := 0) (pc := 10) dX12_isNode_10 pl_12_147 rfl ⟨Nat.le_of_ble_eq_true rfl, Nat.le_of_ble_eq_true rfl⟩ rfl rfl  (by omega) rfl rfl (pm_zc _) ?_ (fun y M' h => h)
  refine fr_iload_n (pc := 0) dX12_within_0 rfl rfl ?_
  refine fr_iload_n (pc := 1) dX12_within_1 rfl rfl ?_
  refine fr_icm_lt (tg := 14) (pc := 2) dX12_within_2 rfl hq (fun hc1 hq => ?_) (fun hc1 hq => ?_)
  · refine fr_iconst (pc := 14) dX12_within_14 (by decide) ?_
    refine fr_iret (pc := 15) dX12_within_15 (Or.inr (Or.inl ⟨rfl, Or.inl rfl⟩)) ?_
    refine fr_iret (pc := 13) dX12_isNode_13 (Or.inr (Or.inl ⟨rfl, Or.inl rfl⟩)) ?_
    refine fr_ifcT (tg := 40) (pc := 10) dX12_values_10 rfl rfl ?_
    refine fr_sipush (pc := 40) dX12_values_40 (by decide) ?_
    exact fr_iret (pc := 43) dX12_values_43 (Or.inl rfl) hq
  · refine fr_iload_n (pc := 5) dX12_within_5 rfl rfl ?_
    refine fr_iload_n (pc := 6) dX12_within_6 rfl rfl ?_
    refine fr_icm_gt (tg := 14) (pc := 7) dX12_within_7 rfl hq (fun hc2 hq => ?_) (fun hc2 hq => ?_)
    · refine fr_iconst (pc := 10) dX12_within_10 (by decide) ?_
      refine fr_goto (tg := 15) (pc := 11) dX12_within_11 rfl ?_
      refine fr_iret (pc := 15) dX12_within_15 (Or.inr (Or.inl ⟨rfl, Or.inr rfl⟩)) ?_
      refine fr_iret (pc := 13) dX12_isNode_13 (Or.inr (Or.inl ⟨rfl, Or.inr rfl⟩)) ?_
      refine fr_ifcF (tg := 40) (pc := 10) dX12_values_10 rfl rfl ?_
      refine fr_aload_n (pc := 13) dX12_values_13 rfl rfl ?_
      refine fr_getr (a := 142) (pc := 14) dX12_values_14 rfl pf_12_17 s0_142 rfl rf_142_10 ?_
      refine fr_iload_n (pc := 17) dX12_values_17 rfl rfl ?_
      obtain ⟨hb3, hq⟩ := hq
      refine fr_iaload (a := 145) (v := gI M 145 a1) (pc := 18) dX12_values_18 rfl s0_145 hb3 (gI_ne _ _ _ _ (by decide)) ?_
      refine fr_iconst (pc := 19) dX12_values_19 (by decide) ?_
      refine fr_icm_ne (tg := 40) (pc := 20) dX12_values_20 rfl hq (fun hc4 hq => ?_) (fun hc4 hq => ?_)
      · refine fr_aload_n (pc := 23) dX12_values_23 rfl rfl ?_
        refine fr_iload_n (pc := 24) dX12_values_24 rfl rfl ?_
        refine fr_inVI (a := 142) (as := [(0, a1)]) (rest := []) (ls' := [(2, 142), (0, a1), (9, 0), (9, 0)]) (c1 := 0) (c2 := 0) (pc := 25) dX12_values_25 pl_12_314 rfl ⟨Nat.le_of_ble_eq_true rfl, Nat.le_of_ble_eq_true rfl⟩ rfl rfl rfl s0_142 (Nat.le_of_ble_eq_true rfl) (by omega) rfl rfl (pm_zc _) (hq sc _ (by omega)) (fun r6 M5 hq => ?_)
        refine fr_ifc_ne (tg := 40) (pc := 28) dX12_values_28 rfl hq (fun hc7 hq => ?_) (fun hc7 hq => ?_)
        · refine fr_iload_n (pc := 31) dX12_values_31 rfl rfl ?_
          refine fr_iconst (pc := 32) dX12_values_32 (by decide) ?_
          refine fr_iconst (pc := 33) dX12_values_33 (by decide) ?_
          refine fr_inSI (as := [(0, a2), (0, 0), (0, 3)]) (rest := []) (ls' := [(0, a2), (0, 0), (0, 3)]) (c1 := 0) (c2 := 0) (pc := 34) dX12_values_34 pl_12_147 rfl ⟨Nat.le_of_ble_eq_true rfl, Nat.le_of_ble_eq_true rfl⟩ rfl rfl  (by omega) rfl rfl (pm_zc _) ?_ (fun y M' h => h)
          refine fr_iload_n (pc := 0) dX12_within_0 rfl rfl ?_
          refine fr_iload_n (pc := 1) dX12_within_1 rfl rfl ?_
          refine fr_icm_lt (tg := 14) (pc := 2) dX12_within_2 rfl hq (fun hc8 hq => ?_) (fun hc8 hq => ?_)
          · refine fr_iconst (pc := 14) dX12_within_14 (by decide) ?_
            refine fr_iret (pc := 15) dX12_within_15 (Or.inr (Or.inl ⟨rfl, Or.inl rfl⟩)) ?_
            refine fr_ifcF (tg := 44) (pc := 37) dX12_values_37 rfl rfl ?_
            refine fr_sipush (pc := 40) dX12_values_40 (by decide) ?_
            exact fr_iret (pc := 43) dX12_values_43 (Or.inl rfl) hq
          · refine fr_iload_n (pc := 5) dX12_within_5 rfl rfl ?_
            refine fr_iload_n (pc := 6) dX12_within_6 rfl rfl ?_
            refine fr_icm_gt (tg := 14) (pc := 7) dX12_within_7 rfl hq (fun hc9 hq => ?_) (fun hc9 hq => ?_)
            · refine fr_iconst (pc := 10) dX12_within_10 (by decide) ?_
              refine fr_goto (tg := 15) (pc := 11) dX12_within_11 rfl ?_
              refine fr_iret (pc := 15) dX12_within_15 (Or.inr (Or.inl ⟨rfl, Or.inr rfl⟩)) ?_
              refine fr_ifcT (tg := 44) (pc := 37) dX12_values_37 rfl rfl ?_
              refine fr_aload_n (pc := 44) dX12_values_44 rfl rfl ?_
              refine fr_getr (a := 142) (pc := 45) dX12_values_45 rfl pf_12_20 s0_142 rfl rf_142_11 ?_
              refine fr_iload_n (pc := 48) dX12_values_48 rfl rfl ?_
              refine fr_iaload (a := 146) (v := gI M5 146 a1) (pc := 49) dX12_values_49 rfl s0_146 hb3 rfl ?_
              refine fr_istore_n (ls2 := [(2, 142), (0, a1), (0, a2), (0, gI M5 146 a1), (9, 0), (9, 0), (9, 0), (9, 0), (9, 0), (9, 0)]) (pc := 50) dX12_values_50 rfl (Nat.le_of_ble_eq_true rfl) rfl ?_
              refine fr_iconst (pc := 51) dX12_values_51 (by decide) ?_
              refine fr_istore (ls2 := [(2, 142), (0, a1), (0, a2), (0, gI M5 146 a1), (0, 0), (9, 0), (9, 0), (9, 0), (9, 0), (9, 0)]) (pc := 52) dX12_values_52 rfl (Nat.le_of_ble_eq_true rfl) rfl ?_
              refine fr_sipush (pc := 54) dX12_values_54 (by decide) ?_
              refine fr_istore (ls2 := [(2, 142), (0, a1), (0, a2), (0, gI M5 146 a1), (0, 0), (0, (-200)), (9, 0), (9, 0), (9, 0), (9, 0)]) (pc := 57) dX12_values_57 rfl (Nat.le_of_ble_eq_true rfl) rfl ?_
              refine fr_sipush (pc := 59) dX12_values_59 (by decide) ?_
              refine fr_istore (ls2 := [(2, 142), (0, a1), (0, a2), (0, gI M5 146 a1), (0, 0), (0, (-200)), (0, (-200)), (9, 0), (9, 0), (9, 0)]) (pc := 62) dX12_values_62 rfl (Nat.le_of_ble_eq_true rfl) rfl ?_
              refine fr_sipush (pc := 64) dX12_values_64 (by decide) ?_
              refine fr_istore (ls2 := [(2, 142), (0, a1), (0, a2), (0, gI M5 146 a1), (0, 0), (0, (-200)), (0, (-200)), (0, (-200)), (9, 0), (9, 0)]) (pc := 67) dX12_values_67 rfl (Nat.le_of_ble_eq_true rfl) rfl ?_
              refine fr_bipush (pc := 69) dX12_values_69 (by decide) ?_
              refine fr_istore (ls2 := [(2, 142), (0, a1), (0, a2), (0, gI M5 146 a1), (0, 0), (0, (-200)), (0, (-200)), (0, (-200)), (0, (-99)), (9, 0)]) (pc := 71) dX12_values_71 rfl (Nat.le_of_ble_eq_true rfl) rfl ?_
              exact hq sc d hd (9, 0) pm_t9
            · refine fr_iconst (pc := 14) dX12_within_14 (by decide) ?_
              refine fr_iret (pc := 15) dX12_within_15 (Or.inr (Or.inl ⟨rfl, Or.inl rfl⟩)) ?_
              refine fr_ifcF (tg := 44) (pc := 37) dX12_values_37 rfl rfl ?_
              refine fr_sipush (pc := 40) dX12_values_40 (by decide) ?_
              exact fr_iret (pc := 43) dX12_values_43 (Or.inl rfl) hq
        · refine fr_sipush (pc := 40) dX12_values_40 (by decide) ?_
          exact fr_iret (pc := 43) dX12_values_43 (Or.inl rfl) hq
      · refine fr_sipush (pc := 40) dX12_values_40 (by decide) ?_
        exact fr_iret (pc := 43) dX12_values_43 (Or.inl rfl) hq
    · refine fr_iconst (pc := 14) dX12_within_14 (by decide) ?_
      refine fr_iret (pc := 15) dX12_within_15 (Or.inr (Or.inl ⟨rfl, Or.inl rfl⟩)) ?_
      refine fr_iret (pc := 13) dX12_isNode_13 (Or.inr (Or.inl ⟨rfl, Or.inl rfl⟩)) ?_
      refine fr_ifcT (tg := 40) (pc := 10) dX12_values_10 rfl rfl ?_
      refine fr_sipush (pc := 40) dX12_values_40 (by decide) ?_
      exact fr_iret (pc := 43) dX12_values_43 (Or.inl rfl) hq
theorem k12_values_73_r {l1 l2 l3 l4 l5 l6 l7 l8 : Int} {M : pm_M} {K : Int → pm_M → Prop} (hq : (if l8 ≤ 99 then ((0 ≤ l1 ∧ l1 < 60) ∧ k12_allPass (upI (upI (upI (upI (upI M 162 0 l1) 163 0 (gI M 146 l1)) 164 0 (gI M 153 l1)) 146 l1 l8) 153 l1 (gI M 153 l1)) (fun r4 M3 => ((0 ≤ gI M3 162 0 ∧ gI M3 162 0 < 800) ∧ ((0 ≤ gI M3 162 0 ∧ gI M3 162 0 < 60) ∧ (if r4 = 0 then k12_values_73 l1 l2 l3 l4 l5 l6 l7 (w32 (l8 + 1)) (upI (upI M3 146 (gI M3 162 0) (gI M3 163 0)) 153 (gI M3 162 0) (gI M3 164 0)) K else (if l4 = 0 then k12_values_73 l1 l2 l3 (w32 (l4 + 1)) l8 l8 l8 (w32 (l8 + 1)) (upI (upI M3 146 (gI M3 162 0) (gI M3 163 0)) 153 (gI M3 162 0) (gI M3 164 0)) K else (if (if 0 ≤ w32 (l8 - l3) then w32 (l8 - l3) else w32 (0 - (w32 (l8 - l3)))) < (if 0 ≤ w32 (l7 - l3) then w32 (l7 - l3) else w32 (0 - (w32 (l7 - l3)))) then k12_values_73 l1 l2 l3 (w32 (l4 + 1)) l5 l8 l8 (w32 (l8 + 1)) (upI (upI M3 146 (gI M3 162 0) (gI M3 163 0)) 153 (gI M3 162 0) (gI M3 164 0)) K else k12_values_73 l1 l2 l3 (w32 (l4 + 1)) l5 l8 l7 (w32 (l8 + 1)) (upI (upI M3 146 (gI M3 162 0) (gI M3 163 0)) 153 (gI M3 162 0) (gI M3 164 0)) K))))))) else (if l2 = 0 then K l4 M else (if l2 = 1 then K l5 M else (if l2 = 2 then K l6 M else K l7 M))))) : k12_values_73 l1 l2 l3 l4 l5 l6 l7 l8 M K := by
  intro sc d hd z9 hz9
  refine fr_iload (pc := 73) dX12_values_73 rfl rfl ?_
  refine fr_bipush (pc := 75) dX12_values_75 (by decide) ?_
  refine fr_icm_gt (tg := 168) (pc := 77) dX12_values_77 rfl hq (fun hc1 hq => ?_) (fun hc1 hq => ?_)
  · refine fr_aload_n (pc := 80) dX12_values_80 rfl rfl ?_
    refine fr_iconst (pc := 81) dX12_values_81 (by decide) ?_
    refine fr_iload_n (pc := 82) dX12_values_82 rfl rfl ?_
    refine fr_iload (pc := 83) dX12_values_83 rfl rfl ?_
    refine fr_aload_n (pc := 85) dX12_values_85 rfl rfl ?_
    refine fr_getr (a := 142) (pc := 86) dX12_values_86 rfl pf_12_41 s0_142 rfl rf_142_23 ?_
    refine fr_iload_n (pc := 89) dX12_values_89 rfl rfl ?_
    obtain ⟨hb2, hq⟩ := hq
    refine fr_iaload (a := 153) (v := gI M 153 l1) (pc := 90) dX12_values_90 rfl s0_153 hb2 rfl ?_
    refine fr_inVV (a := 142) (as := [(0, 0), (0, l1), (0, l8), (0, gI M 153 l1)]) (rest := []) (ls' := [(2, 142), (0, 0), (0, l1), (0, l8), (0, gI M 153 l1)]) (c1 := 0) (c2 := 0) (pc := 91) dX12_values_91 pl_12_367 rfl ⟨Nat.le_of_ble_eq_true rfl, Nat.le_of_ble_eq_true rfl⟩ rfl rfl rfl s0_142 (Nat.le_of_ble_eq_true rfl) (by omega) rfl rfl (pm_zc _) ?_ (fun M' h => h)
    refine fr_aload_n (pc := 0) dX12_puts__0 rfl rfl ?_
    refine fr_getr (a := 142) (pc := 1) dX12_puts__1 rfl pf_12_75 s0_142 rfl rf_142_47 ?_
    refine fr_iload_n (pc := 4) dX12_puts__4 rfl rfl ?_
    refine fr_iload_n (pc := 5) dX12_puts__5 rfl rfl ?_
    refine fr_iastore (a := 162) (pc := 6) dX12_puts__6 rfl s0_162 (by decide) nr_162 ?_
    refine fr_aload_n (pc := 7) dX12_puts__7 rfl rfl ?_
    refine fr_getr (a := 142) (pc := 8) dX12_puts__8 rfl pf_12_78 s0_142 rfl rf_142_48 ?_
    refine fr_iload_n (pc := 11) dX12_puts__11 rfl rfl ?_
    refine fr_aload_n (pc := 12) dX12_puts__12 rfl rfl ?_
    refine fr_getr (a := 142) (pc := 13) dX12_puts__13 rfl pf_12_20 s0_142 rfl rf_142_11 ?_
    refine fr_iload_n (pc := 16) dX12_puts__16 rfl rfl ?_
    refine fr_iaload (a := 146) (v := gI M 146 l1) (pc := 17) dX12_puts__17 rfl s0_146 ⟨hb2.1, by omega⟩ (gI_ne _ _ _ _ (by decide)) ?_
    refine fr_iastore (a := 163) (pc := 18) dX12_puts__18 rfl s0_163 (by decide) nr_163 ?_
    refine fr_aload_n (pc := 19) dX12_puts__19 rfl rfl ?_
    refine fr_getr (a := 142) (pc := 20) dX12_puts__20 rfl pf_12_81 s0_142 rfl rf_142_49 ?_
    refine fr_iload_n (pc := 23) dX12_puts__23 rfl rfl ?_
    refine fr_aload_n (pc := 24) dX12_puts__24 rfl rfl ?_
    refine fr_getr (a := 142) (pc := 25) dX12_puts__25 rfl pf_12_41 s0_142 rfl rf_142_23 ?_
    refine fr_iload_n (pc := 28) dX12_puts__28 rfl rfl ?_
    refine fr_iaload (a := 153) (v := gI M 153 l1) (pc := 29) dX12_puts__29 rfl s0_153 hb2 ((gI_ne _ _ _ _ (by decide)).trans (gI_ne _ _ _ _ (by decide))) ?_
    refine fr_iastore (a := 164) (pc := 30) dX12_puts__30 rfl s0_164 (by decide) nr_164 ?_
    refine fr_aload_n (pc := 31) dX12_puts__31 rfl rfl ?_
    refine fr_getr (a := 142) (pc := 32) dX12_puts__32 rfl pf_12_20 s0_142 rfl rf_142_11 ?_
    refine fr_iload_n (pc := 35) dX12_puts__35 rfl rfl ?_
    refine fr_iload_n (pc := 36) dX12_puts__36 rfl rfl ?_
    refine fr_iastore (a := 146) (pc := 37) dX12_puts__37 rfl s0_146 ⟨hb2.1, by omega⟩ nr_146 ?_
    refine fr_aload_n (pc := 38) dX12_puts__38 rfl rfl ?_
    refine fr_getr (a := 142) (pc := 39) dX12_puts__39 rfl pf_12_41 s0_142 rfl rf_142_23 ?_
    refine fr_iload_n (pc := 42) dX12_puts__42 rfl rfl ?_
    refine fr_iload (pc := 43) dX12_puts__43 rfl rfl ?_
    refine fr_iastore (a := 153) (pc := 45) dX12_puts__45 rfl s0_153 hb2 nr_153 ?_
    refine fr_vret (pc := 46) dX12_puts__46 rfl ?_
    refine fr_aload_n (pc := 94) dX12_values_94 rfl rfl ?_
    refine fr_inVI (a := 142) (as := []) (rest := []) (ls' := [(2, 142), (9, 0)]) (c1 := 0) (c2 := 0) (pc := 95) dX12_values_95 pl_12_364 rfl ⟨Nat.le_of_ble_eq_true rfl, Nat.le_of_ble_eq_true rfl⟩ rfl rfl rfl s0_142 (Nat.le_of_ble_eq_true rfl) (by omega) rfl rfl (pm_zc _) (hq sc _ (by omega)) (fun r4 M3 hq => ?_)
    refine fr_istore (ls2 := [(2, 142), (0, l1), (0, l2), (0, l3), (0, l4), (0, l5), (0, l6), (0, l7), (0, l8), (0, r4)]) (pc := 98) dX12_values_98 rfl (Nat.le_of_ble_eq_true rfl) rfl ?_
    refine fr_aload_n (pc := 100) dX12_values_100 rfl rfl ?_
    refine fr_iconst (pc := 101) dX12_values_101 (by decide) ?_
    refine fr_inVV (a := 142) (as := [(0, 0)]) (rest := []) (ls' := [(2, 142), (0, 0)]) (c1 := 0) (c2 := 0) (pc := 102) dX12_values_102 pl_12_374 rfl ⟨Nat.le_of_ble_eq_true rfl, Nat.le_of_ble_eq_true rfl⟩ rfl rfl rfl s0_142 (Nat.le_of_ble_eq_true rfl) (by omega) rfl rfl (pm_zc _) ?_ (fun M' h => h)
    refine fr_aload_n (pc := 0) dX12_takesOut_0 rfl rfl ?_
    refine fr_getr (a := 142) (pc := 1) dX12_takesOut_1 rfl pf_12_20 s0_142 rfl rf_142_11 ?_
    refine fr_aload_n (pc := 4) dX12_takesOut_4 rfl rfl ?_
    refine fr_getr (a := 142) (pc := 5) dX12_takesOut_5 rfl pf_12_75 s0_142 rfl rf_142_47 ?_
    refine fr_iload_n (pc := 8) dX12_takesOut_8 rfl rfl ?_
    refine fr_iaload (a := 162) (v := gI M3 162 0) (pc := 9) dX12_takesOut_9 rfl s0_162 (by decide) rfl ?_
    refine fr_aload_n (pc := 10) dX12_takesOut_10 rfl rfl ?_
    refine fr_getr (a := 142) (pc := 11) dX12_takesOut_11 rfl pf_12_78 s0_142 rfl rf_142_48 ?_
    refine fr_iload_n (pc := 14) dX12_takesOut_14 rfl rfl ?_
    refine fr_iaload (a := 163) (v := gI M3 163 0) (pc := 15) dX12_takesOut_15 rfl s0_163 (by decide) rfl ?_
    obtain ⟨hb5, hq⟩ := hq
    refine fr_iastore (a := 146) (pc := 16) dX12_takesOut_16 rfl s0_146 hb5 nr_146 ?_
    refine fr_aload_n (pc := 17) dX12_takesOut_17 rfl rfl ?_
    refine fr_getr (a := 142) (pc := 18) dX12_takesOut_18 rfl pf_12_41 s0_142 rfl rf_142_23 ?_
    refine fr_aload_n (pc := 21) dX12_takesOut_21 rfl rfl ?_
    refine fr_getr (a := 142) (pc := 22) dX12_takesOut_22 rfl pf_12_75 s0_142 rfl rf_142_47 ?_
    refine fr_iload_n (pc := 25) dX12_takesOut_25 rfl rfl ?_
    refine fr_iaload (a := 162) (v := gI M3 162 0) (pc := 26) dX12_takesOut_26 rfl s0_162 (by decide) (gI_ne _ _ _ _ (by decide)) ?_
    refine fr_aload_n (pc := 27) dX12_takesOut_27 rfl rfl ?_
    refine fr_getr (a := 142) (pc := 28) dX12_takesOut_28 rfl pf_12_81 s0_142 rfl rf_142_49 ?_
    refine fr_iload_n (pc := 31) dX12_takesOut_31 rfl rfl ?_
    refine fr_iaload (a := 164) (v := gI M3 164 0) (pc := 32) dX12_takesOut_32 rfl s0_164 (by decide) (gI_ne _ _ _ _ (by decide)) ?_
    obtain ⟨hb6, hq⟩ := hq
    refine fr_iastore (a := 153) (pc := 33) dX12_takesOut_33 rfl s0_153 hb6 nr_153 ?_
    refine fr_vret (pc := 34) dX12_takesOut_34 rfl ?_
    refine fr_iload (pc := 105) dX12_values_105 rfl rfl ?_
    refine fr_ifc_eq (tg := 162) (pc := 107) dX12_values_107 rfl hq (fun hc7 hq => ?_) (fun hc7 hq => ?_)
    · refine fr_iinc (z := w32 (l8 + 1)) (ls2 := [(2, 142), (0, l1), (0, l2), (0, l3), (0, l4), (0, l5), (0, l6), (0, l7), (0, w32 (l8 + 1)), (0, r4)]) (pc := 162) dX12_values_162 (Nat.le_of_ble_eq_true rfl) rfl rfl rfl ?_
      refine fr_goto (tg := 73) (pc := 165) dX12_values_165 rfl ?_
      exact hq sc d hd (0, r4) pm_t0
    · refine fr_iload (pc := 110) dX12_values_110 rfl rfl ?_
      refine fr_ifc_eq (tg := 132) (pc := 112) dX12_values_112 rfl hq (fun hc8 hq => ?_) (fun hc8 hq => ?_)
      · refine fr_iload (pc := 132) dX12_values_132 rfl rfl ?_
        refine fr_goto (tg := 139) (pc := 134) dX12_values_134 rfl ?_
        refine fr_istore (ls2 := [(2, 142), (0, l1), (0, l2), (0, l3), (0, l4), (0, l5), (0, l6), (0, l8), (0, l8), (0, r4)]) (pc := 139) dX12_values_139 rfl (Nat.le_of_ble_eq_true rfl) rfl ?_
        refine fr_iload (pc := 141) dX12_values_141 rfl rfl ?_
        refine fr_ifcF (tg := 151) (pc := 143) dX12_values_143 (decide_eq_false (fun z => z hc8)) rfl ?_
        refine fr_iload (pc := 146) dX12_values_146 rfl rfl ?_
        refine fr_goto (tg := 153) (pc := 148) dX12_values_148 rfl ?_
        refine fr_istore (ls2 := [(2, 142), (0, l1), (0, l2), (0, l3), (0, l4), (0, l8), (0, l6), (0, l8), (0, l8), (0, r4)]) (pc := 153) dX12_values_153 rfl (Nat.le_of_ble_eq_true rfl) rfl ?_
        refine fr_iload (pc := 155) dX12_values_155 rfl rfl ?_
        refine fr_istore (ls2 := [(2, 142), (0, l1), (0, l2), (0, l3), (0, l4), (0, l8), (0, l8), (0, l8), (0, l8), (0, r4)]) (pc := 157) dX12_values_157 rfl (Nat.le_of_ble_eq_true rfl) rfl ?_
        refine fr_iinc (z := w32 (l4 + 1)) (ls2 := [(2, 142), (0, l1), (0, l2), (0, l3), (0, w32 (l4 + 1)), (0, l8), (0, l8), (0, l8), (0, l8), (0, r4)]) (pc := 159) dX12_values_159 (Nat.le_of_ble_eq_true rfl) rfl rfl rfl ?_
        refine fr_iinc (z := w32 (l8 + 1)) (ls2 := [(2, 142), (0, l1), (0, l2), (0, l3), (0, w32 (l4 + 1)), (0, l8), (0, l8), (0, l8), (0, w32 (l8 + 1)), (0, r4)]) (pc := 162) dX12_values_162 (Nat.le_of_ble_eq_true rfl) rfl rfl rfl ?_
        refine fr_goto (tg := 73) (pc := 165) dX12_values_165 rfl ?_
        exact hq sc d hd (0, r4) pm_t0
      · refine fr_iload (pc := 115) dX12_values_115 rfl rfl ?_
        refine fr_iload_n (pc := 117) dX12_values_117 rfl rfl ?_
        refine fr_isub (z := w32 (l8 - l3)) (pc := 118) dX12_values_118 rfl ?_
        refine fr_abs (pc := 119) dX12_values_119 pl_12_401 rfl (Nat.le_of_ble_eq_true rfl) ?_
        refine fr_iload (pc := 122) dX12_values_122 rfl rfl ?_
        refine fr_iload_n (pc := 124) dX12_values_124 rfl rfl ?_
        refine fr_isub (z := w32 (l7 - l3)) (pc := 125) dX12_values_125 rfl ?_
        refine fr_abs (pc := 126) dX12_values_126 pl_12_401 rfl (Nat.le_of_ble_eq_true rfl) ?_
        refine fr_icm_ge (tg := 137) (pc := 129) dX12_values_129 rfl hq (fun hc9 hq => ?_) (fun hc9 hq => ?_)
        · refine fr_iload (pc := 132) dX12_values_132 rfl rfl ?_
          refine fr_goto (tg := 139) (pc := 134) dX12_values_134 rfl ?_
          refine fr_istore (ls2 := [(2, 142), (0, l1), (0, l2), (0, l3), (0, l4), (0, l5), (0, l6), (0, l8), (0, l8), (0, r4)]) (pc := 139) dX12_values_139 rfl (Nat.le_of_ble_eq_true rfl) rfl ?_
          refine fr_iload (pc := 141) dX12_values_141 rfl rfl ?_
          refine fr_ifcT (tg := 151) (pc := 143) dX12_values_143 (decide_eq_true hc8) rfl ?_
          refine fr_iload (pc := 151) dX12_values_151 rfl rfl ?_
          refine fr_istore (ls2 := [(2, 142), (0, l1), (0, l2), (0, l3), (0, l4), (0, l5), (0, l6), (0, l8), (0, l8), (0, r4)]) (pc := 153) dX12_values_153 rfl (Nat.le_of_ble_eq_true rfl) rfl ?_
          refine fr_iload (pc := 155) dX12_values_155 rfl rfl ?_
          refine fr_istore (ls2 := [(2, 142), (0, l1), (0, l2), (0, l3), (0, l4), (0, l5), (0, l8), (0, l8), (0, l8), (0, r4)]) (pc := 157) dX12_values_157 rfl (Nat.le_of_ble_eq_true rfl) rfl ?_
          refine fr_iinc (z := w32 (l4 + 1)) (ls2 := [(2, 142), (0, l1), (0, l2), (0, l3), (0, w32 (l4 + 1)), (0, l5), (0, l8), (0, l8), (0, l8), (0, r4)]) (pc := 159) dX12_values_159 (Nat.le_of_ble_eq_true rfl) rfl rfl rfl ?_
          refine fr_iinc (z := w32 (l8 + 1)) (ls2 := [(2, 142), (0, l1), (0, l2), (0, l3), (0, w32 (l4 + 1)), (0, l5), (0, l8), (0, l8), (0, w32 (l8 + 1)), (0, r4)]) (pc := 162) dX12_values_162 (Nat.le_of_ble_eq_true rfl) rfl rfl rfl ?_
          refine fr_goto (tg := 73) (pc := 165) dX12_values_165 rfl ?_
          exact hq sc d hd (0, r4) pm_t0
        · refine fr_iload (pc := 137) dX12_values_137 rfl rfl ?_
          refine fr_istore (ls2 := [(2, 142), (0, l1), (0, l2), (0, l3), (0, l4), (0, l5), (0, l6), (0, l7), (0, l8), (0, r4)]) (pc := 139) dX12_values_139 rfl (Nat.le_of_ble_eq_true rfl) rfl ?_
          refine fr_iload (pc := 141) dX12_values_141 rfl rfl ?_
          refine fr_ifcT (tg := 151) (pc := 143) dX12_values_143 (decide_eq_true hc8) rfl ?_
          refine fr_iload (pc := 151) dX12_values_151 rfl rfl ?_
          refine fr_istore (ls2 := [(2, 142), (0, l1), (0, l2), (0, l3), (0, l4), (0, l5), (0, l6), (0, l7), (0, l8), (0, r4)]) (pc := 153) dX12_values_153 rfl (Nat.le_of_ble_eq_true rfl) rfl ?_
          refine fr_iload (pc := 155) dX12_values_155 rfl rfl ?_
          refine fr_istore (ls2 := [(2, 142), (0, l1), (0, l2), (0, l3), (0, l4), (0, l5), (0, l8), (0, l7), (0, l8), (0, r4)]) (pc := 157) dX12_values_157 rfl (Nat.le_of_ble_eq_true rfl) rfl ?_
          refine fr_iinc (z := w32 (l4 + 1)) (ls2 := [(2, 142), (0, l1), (0, l2), (0, l3), (0, w32 (l4 + 1)), (0, l5), (0, l8), (0, l7), (0, l8), (0, r4)]) (pc := 159) dX12_values_159 (Nat.le_of_ble_eq_true rfl) rfl rfl rfl ?_
          refine fr_iinc (z := w32 (l8 + 1)) (ls2 := [(2, 142), (0, l1), (0, l2), (0, l3), (0, w32 (l4 + 1)), (0, l5), (0, l8), (0, l7), (0, w32 (l8 + 1)), (0, r4)]) (pc := 162) dX12_values_162 (Nat.le_of_ble_eq_true rfl) rfl rfl rfl ?_
          refine fr_goto (tg := 73) (pc := 165) dX12_values_165 rfl ?_
          exact hq sc d hd (0, r4) pm_t0
  · refine fr_iload_n (pc := 168) dX12_values_168 rfl rfl ?_
    refine fr_ifc_ne (tg := 177) (pc := 169) dX12_values_169 rfl hq (fun hc10 hq => ?_) (fun hc10 hq => ?_)
    · refine fr_iload (pc := 172) dX12_values_172 rfl rfl ?_
      refine fr_goto (tg := 199) (pc := 174) dX12_values_174 rfl ?_
      exact fr_iret (pc := 199) dX12_values_199 (Or.inl rfl) hq
    · refine fr_iload_n (pc := 177) dX12_values_177 rfl rfl ?_
      refine fr_iconst (pc := 178) dX12_values_178 (by decide) ?_
      refine fr_icm_ne (tg := 187) (pc := 179) dX12_values_179 rfl hq (fun hc11 hq => ?_) (fun hc11 hq => ?_)
      · refine fr_iload (pc := 182) dX12_values_182 rfl rfl ?_
        refine fr_goto (tg := 199) (pc := 184) dX12_values_184 rfl ?_
        exact fr_iret (pc := 199) dX12_values_199 (Or.inl rfl) hq
      · refine fr_iload_n (pc := 187) dX12_values_187 rfl rfl ?_
        refine fr_iconst (pc := 188) dX12_values_188 (by decide) ?_
        refine fr_icm_ne (tg := 197) (pc := 189) dX12_values_189 rfl hq (fun hc12 hq => ?_) (fun hc12 hq => ?_)
        · refine fr_iload (pc := 192) dX12_values_192 rfl rfl ?_
          refine fr_goto (tg := 199) (pc := 194) dX12_values_194 rfl ?_
          exact fr_iret (pc := 199) dX12_values_199 (Or.inl rfl) hq
        · refine fr_iload (pc := 197) dX12_values_197 rfl rfl ?_
          exact fr_iret (pc := 199) dX12_values_199 (Or.inl rfl) hq
theorem k12_forced_r {a1 a2 : Int} {M : pm_M} {K : Int → pm_M → Prop} (hq : (if a1 < 0 then K (-1) (upI M 142 0 0) else (if a1 ≤ w32 ((gI M 144 0) - 1) then ((0 ≤ a1 ∧ a1 < 800) ∧ (if gI M 145 a1 = 1 then k12_isGone a1 (upI M 142 0 0) (fun r6 M5 => (if r6 = 0 then ((a2 = 0 ∨ a2 = 1) ∧ k12_manyPass 0 (upI (upI M5 142 36 a1) 142 37 a2) (fun r10 M9 => K r10 (upI M9 142 36 (-1)))) else K (-1) M5)) else (if gI M 145 a1 = 2 then k12_isGone a1 (upI M 142 0 0) (fun r13 M12 => (if r13 = 0 then ((a2 = 0 ∨ a2 = 1) ∧ k12_manyPass 0 (upI (upI M12 142 36 a1) 142 37 a2) (fun r17 M16 => K r17 (upI M16 142 36 (-1)))) else K (-1) M12)) else K (-1) (upI M 142 0 0)))) else K (-1) (upI M 142 0 0)))) : k12_forced a1 a2 M K := by
  intro sc d hd
  refine fr_aload_n (pc := 0) dX12_forced_0 rfl rfl ?_
  refine fr_iconst (pc := 1) dX12_forced_1 (by decide) ?_
  refine fr_put (a := 142) (i := 0) (pc := 2) dX12_forced_2 rfl pf_12_121 rfl s0_142 rfl rfl nf_142_0 rfl ?_
  refine fr_aload_n (pc := 5) dX12_forced_5 rfl rfl ?_
  refine fr_iload_n (pc := 6) dX12_forced_6 rfl rfl ?_
  refine fr_inVI (a := 142) (as := [(0, a1)]) (rest := []) (ls' := [(2, 142), (0, a1)]) (c1 := 0) (c2 := 0) (pc := 7) dX12_forced_7 pl_12_305 rfl ⟨Nat.le_of_ble_eq_true rfl, Nat.le_of_ble_eq_true rfl⟩ rfl rfl rfl s0_142 (Nat.le_of_ble_eq_true rfl) (by omega) rfl rfl (pm_zc _) ?_ (fun y M' h => h)
  refine fr_iload_n (pc := 0) dX12_isNode_0 rfl rfl ?_
  refine fr_iconst (pc := 1) dX12_isNode_1 (by decide) ?_
  refine fr_aload_n (pc := 2) dX12_isNode_2 rfl rfl ?_
  refine fr_getr (a := 142) (pc := 3) dX12_isNode_3 rfl pf_12_13 s0_142 rfl rf_142_9 ?_
  refine fr_iconst (pc := 6) dX12_isNode_6 (by decide) ?_
  refine fr_iaload (a := 144) (v := gI M 144 0) (pc := 7) dX12_isNode_7 rfl s0_144 (by decide) (gI_ne _ _ _ _ (by decide)) ?_
  refine fr_iconst (pc := 8) dX12_isNode_8 (by decide) ?_
  refine fr_isub (z := w32 ((gI M 144 0) - 1)) (pc := 9) dX12_isNode_9 rfl ?_
  refine fr_inSI (as := [(0, a1), (0, 0), (0, w32 ((gI M 144 0) - 1))]) (rest := []) (ls' := [(0, a1), (0, 0), (0, w32 ((gI M 144 0) - 1))]) (c1 := 0) (c2 := 0) (pc := 10) dX12_isNode_10 pl_12_147 rfl ⟨Nat.le_of_ble_eq_true rfl, Nat.le_of_ble_eq_true rfl⟩ rfl rfl  (by omega) rfl rfl (pm_zc _) ?_ (fun y M' h => h)
  refine fr_iload_n (pc := 0) dX12_within_0 rfl rfl ?_
  refine fr_iload_n (pc := 1) dX12_within_1 rfl rfl ?_
  refine fr_icm_lt (tg := 14) (pc := 2) dX12_within_2 rfl hq (fun hc1 hq => ?_) (fun hc1 hq => ?_)
  · refine fr_iconst (pc := 14) dX12_within_14 (by decide) ?_
    refine fr_iret (pc := 15) dX12_within_15 (Or.inr (Or.inl ⟨rfl, Or.inl rfl⟩)) ?_
    refine fr_iret (pc := 13) dX12_isNode_13 (Or.inr (Or.inl ⟨rfl, Or.inl rfl⟩)) ?_
    refine fr_ifcT (tg := 41) (pc := 10) dX12_forced_10 rfl rfl ?_
    refine fr_iconst (pc := 41) dX12_forced_41 (by decide) ?_
    exact fr_iret (pc := 42) dX12_forced_42 (Or.inl rfl) hq
  · refine fr_iload_n (pc := 5) dX12_within_5 rfl rfl ?_
    refine fr_iload_n (pc := 6) dX12_within_6 rfl rfl ?_
    refine fr_icm_gt (tg := 14) (pc := 7) dX12_within_7 rfl hq (fun hc2 hq => ?_) (fun hc2 hq => ?_)
    · refine fr_iconst (pc := 10) dX12_within_10 (by decide) ?_
      refine fr_goto (tg := 15) (pc := 11) dX12_within_11 rfl ?_
      refine fr_iret (pc := 15) dX12_within_15 (Or.inr (Or.inl ⟨rfl, Or.inr rfl⟩)) ?_
      refine fr_iret (pc := 13) dX12_isNode_13 (Or.inr (Or.inl ⟨rfl, Or.inr rfl⟩)) ?_
      refine fr_ifcF (tg := 41) (pc := 10) dX12_forced_10 rfl rfl ?_
      refine fr_aload_n (pc := 13) dX12_forced_13 rfl rfl ?_
      refine fr_getr (a := 142) (pc := 14) dX12_forced_14 rfl pf_12_17 s0_142 rfl rf_142_10 ?_
      refine fr_iload_n (pc := 17) dX12_forced_17 rfl rfl ?_
      obtain ⟨hb3, hq⟩ := hq
      refine fr_iaload (a := 145) (v := gI M 145 a1) (pc := 18) dX12_forced_18 rfl s0_145 hb3 (gI_ne _ _ _ _ (by decide)) ?_
      refine fr_iconst (pc := 19) dX12_forced_19 (by decide) ?_
      refine fr_icm_eq (tg := 33) (pc := 20) dX12_forced_20 rfl hq (fun hc4 hq => ?_) (fun hc4 hq => ?_)
      · refine fr_aload_n (pc := 33) dX12_forced_33 rfl rfl ?_
        refine fr_iload_n (pc := 34) dX12_forced_34 rfl rfl ?_
        refine fr_inVI (a := 142) (as := [(0, a1)]) (rest := []) (ls' := [(2, 142), (0, a1), (9, 0), (9, 0)]) (c1 := 0) (c2 := 0) (pc := 35) dX12_forced_35 pl_12_314 rfl ⟨Nat.le_of_ble_eq_true rfl, Nat.le_of_ble_eq_true rfl⟩ rfl rfl rfl s0_142 (Nat.le_of_ble_eq_true rfl) (by omega) rfl rfl (pm_zc _) (hq sc _ (by omega)) (fun r6 M5 hq => ?_)
        refine fr_ifc_eq (tg := 43) (pc := 38) dX12_forced_38 rfl hq (fun hc7 hq => ?_) (fun hc7 hq => ?_)
        · refine fr_aload_n (pc := 43) dX12_forced_43 rfl rfl ?_
          refine fr_iload_n (pc := 44) dX12_forced_44 rfl rfl ?_
          refine fr_put (a := 142) (i := 36) (pc := 45) dX12_forced_45 rfl pf_12_63 rfl s0_142 rfl rfl nf_142_36 rfl ?_
          refine fr_aload_n (pc := 48) dX12_forced_48 rfl rfl ?_
          refine fr_iload_n (pc := 49) dX12_forced_49 rfl rfl ?_
          obtain ⟨hz8, hq⟩ := hq
          refine fr_put (a := 142) (i := 37) (pc := 50) dX12_forced_50 rfl pf_12_271 rfl s0_142 (by rcases hz8 with h | h <;> rw [h] <;> rfl) rfl nf_142_37 rfl ?_
          refine fr_aload_n (pc := 53) dX12_forced_53 rfl rfl ?_
          refine fr_iconst (pc := 54) dX12_forced_54 (by decide) ?_
          refine fr_inVI (a := 142) (as := [(0, 0)]) (rest := []) (ls' := [(2, 142), (0, 0), (9, 0), (9, 0)]) (c1 := 0) (c2 := 0) (pc := 55) dX12_forced_55 pl_12_370 rfl ⟨Nat.le_of_ble_eq_true rfl, Nat.le_of_ble_eq_true rfl⟩ rfl rfl rfl s0_142 (Nat.le_of_ble_eq_true rfl) (by omega) rfl rfl (pm_zc _) (hq sc _ (by omega)) (fun r10 M9 hq => ?_)
          refine fr_istore_n (ls2 := [(2, 142), (0, a1), (0, a2), (0, r10)]) (pc := 58) dX12_forced_58 rfl (Nat.le_of_ble_eq_true rfl) rfl ?_
          refine fr_aload_n (pc := 59) dX12_forced_59 rfl rfl ?_
          refine fr_iconst (pc := 60) dX12_forced_60 (by decide) ?_
          refine fr_put (a := 142) (i := 36) (pc := 61) dX12_forced_61 rfl pf_12_63 rfl s0_142 rfl rfl nf_142_36 rfl ?_
          refine fr_iload_n (pc := 64) dX12_forced_64 rfl rfl ?_
          exact fr_iret (pc := 65) dX12_forced_65 (Or.inl rfl) hq
        · refine fr_iconst (pc := 41) dX12_forced_41 (by decide) ?_
          exact fr_iret (pc := 42) dX12_forced_42 (Or.inl rfl) hq
      · refine fr_aload_n (pc := 23) dX12_forced_23 rfl rfl ?_
        refine fr_getr (a := 142) (pc := 24) dX12_forced_24 rfl pf_12_17 s0_142 rfl rf_142_10 ?_
        refine fr_iload_n (pc := 27) dX12_forced_27 rfl rfl ?_
        refine fr_iaload (a := 145) (v := gI M 145 a1) (pc := 28) dX12_forced_28 rfl s0_145 hb3 (gI_ne _ _ _ _ (by decide)) ?_
        refine fr_iconst (pc := 29) dX12_forced_29 (by decide) ?_
        refine fr_icm_ne (tg := 41) (pc := 30) dX12_forced_30 rfl hq (fun hc11 hq => ?_) (fun hc11 hq => ?_)
        · refine fr_aload_n (pc := 33) dX12_forced_33 rfl rfl ?_
          refine fr_iload_n (pc := 34) dX12_forced_34 rfl rfl ?_
          refine fr_inVI (a := 142) (as := [(0, a1)]) (rest := []) (ls' := [(2, 142), (0, a1), (9, 0), (9, 0)]) (c1 := 0) (c2 := 0) (pc := 35) dX12_forced_35 pl_12_314 rfl ⟨Nat.le_of_ble_eq_true rfl, Nat.le_of_ble_eq_true rfl⟩ rfl rfl rfl s0_142 (Nat.le_of_ble_eq_true rfl) (by omega) rfl rfl (pm_zc _) (hq sc _ (by omega)) (fun r13 M12 hq => ?_)
          refine fr_ifc_eq (tg := 43) (pc := 38) dX12_forced_38 rfl hq (fun hc14 hq => ?_) (fun hc14 hq => ?_)
          · refine fr_aload_n (pc := 43) dX12_forced_43 rfl rfl ?_
            refine fr_iload_n (pc := 44) dX12_forced_44 rfl rfl ?_
            refine fr_put (a := 142) (i := 36) (pc := 45) dX12_forced_45 rfl pf_12_63 rfl s0_142 rfl rfl nf_142_36 rfl ?_
            refine fr_aload_n (pc := 48) dX12_forced_48 rfl rfl ?_
            refine fr_iload_n (pc := 49) dX12_forced_49 rfl rfl ?_
            obtain ⟨hz15, hq⟩ := hq
            refine fr_put (a := 142) (i := 37) (pc := 50) dX12_forced_50 rfl pf_12_271 rfl s0_142 (by rcases hz15 with h | h <;> rw [h] <;> rfl) rfl nf_142_37 rfl ?_
            refine fr_aload_n (pc := 53) dX12_forced_53 rfl rfl ?_
            refine fr_iconst (pc := 54) dX12_forced_54 (by decide) ?_
            refine fr_inVI (a := 142) (as := [(0, 0)]) (rest := []) (ls' := [(2, 142), (0, 0), (9, 0), (9, 0)]) (c1 := 0) (c2 := 0) (pc := 55) dX12_forced_55 pl_12_370 rfl ⟨Nat.le_of_ble_eq_true rfl, Nat.le_of_ble_eq_true rfl⟩ rfl rfl rfl s0_142 (Nat.le_of_ble_eq_true rfl) (by omega) rfl rfl (pm_zc _) (hq sc _ (by omega)) (fun r17 M16 hq => ?_)
            refine fr_istore_n (ls2 := [(2, 142), (0, a1), (0, a2), (0, r17)]) (pc := 58) dX12_forced_58 rfl (Nat.le_of_ble_eq_true rfl) rfl ?_
            refine fr_aload_n (pc := 59) dX12_forced_59 rfl rfl ?_
            refine fr_iconst (pc := 60) dX12_forced_60 (by decide) ?_
            refine fr_put (a := 142) (i := 36) (pc := 61) dX12_forced_61 rfl pf_12_63 rfl s0_142 rfl rfl nf_142_36 rfl ?_
            refine fr_iload_n (pc := 64) dX12_forced_64 rfl rfl ?_
            exact fr_iret (pc := 65) dX12_forced_65 (Or.inl rfl) hq
          · refine fr_iconst (pc := 41) dX12_forced_41 (by decide) ?_
            exact fr_iret (pc := 42) dX12_forced_42 (Or.inl rfl) hq
        · refine fr_iconst (pc := 41) dX12_forced_41 (by decide) ?_
          exact fr_iret (pc := 42) dX12_forced_42 (Or.inl rfl) hq
    · refine fr_iconst (pc := 14) dX12_within_14 (by decide) ?_
      refine fr_iret (pc := 15) dX12_within_15 (Or.inr (Or.inl ⟨rfl, Or.inl rfl⟩)) ?_
      refine fr_iret (pc := 13) dX12_isNode_13 (Or.inr (Or.inl ⟨rfl, Or.inl rfl⟩)) ?_
      refine fr_ifcT (tg := 41) (pc := 10) dX12_forced_10 rfl rfl ?_
      refine fr_iconst (pc := 41) dX12_forced_41 (by decide) ?_
      exact fr_iret (pc := 42) dX12_forced_42 (Or.inl rfl) hq
theorem k12_flip_r {a1 : Int} {M : pm_M} {K : Int → pm_M → Prop} (hq : (if gI M 144 0 ≤ 0 then K (-1) (upI M 142 0 0) else (if a1 < 0 then K (-1) (upI M 142 0 0) else (if a1 ≤ w32 ((gI M 142 24) - 1) then k12_passes a1 (upI M 142 0 0) (fun r5 M4 => (if r5 = 0 then k12_flip_41 a1 (gI M4 142 34) (-2) 0 M4 K else K (-1) M4)) else K (-1) (upI M 142 0 0))))) : k12_flip a1 M K := by
  intro sc d hd
  refine fr_aload_n (pc := 0) dX12_flip_0 rfl rfl ?_
  refine fr_iconst (pc := 1) dX12_flip_1 (by decide) ?_
  refine fr_put (a := 142) (i := 0) (pc := 2) dX12_flip_2 rfl pf_12_121 rfl s0_142 rfl rfl nf_142_0 rfl ?_
  refine fr_aload_n (pc := 5) dX12_flip_5 rfl rfl ?_
  refine fr_inVI (a := 142) (as := []) (rest := []) (ls' := [(2, 142)]) (c1 := 0) (c2 := 0) (pc := 6) dX12_flip_6 pl_12_299 rfl ⟨Nat.le_of_ble_eq_true rfl, Nat.le_of_ble_eq_true rfl⟩ rfl rfl rfl s0_142 (Nat.le_of_ble_eq_true rfl) (by omega) rfl rfl (pm_zc _) ?_ (fun y M' h => h)
  refine fr_aload_n (pc := 0) dX12_isProgram_0 rfl rfl ?_
  refine fr_getr (a := 142) (pc := 1) dX12_isProgram_1 rfl pf_12_13 s0_142 rfl rf_142_9 ?_
  refine fr_iconst (pc := 4) dX12_isProgram_4 (by decide) ?_
  refine fr_iaload (a := 144) (v := gI M 144 0) (pc := 5) dX12_isProgram_5 rfl s0_144 (by decide) (gI_ne _ _ _ _ (by decide)) ?_
  refine fr_ifc_le (tg := 13) (pc := 6) dX12_isProgram_6 rfl hq (fun hc1 hq => ?_) (fun hc1 hq => ?_)
  · refine fr_iconst (pc := 13) dX12_isProgram_13 (by decide) ?_
    refine fr_iret (pc := 14) dX12_isProgram_14 (Or.inr (Or.inl ⟨rfl, Or.inl rfl⟩)) ?_
    refine fr_ifcT (tg := 28) (pc := 9) dX12_flip_9 rfl rfl ?_
    refine fr_iconst (pc := 28) dX12_flip_28 (by decide) ?_
    exact fr_iret (pc := 29) dX12_flip_29 (Or.inl rfl) hq
  · refine fr_iconst (pc := 9) dX12_isProgram_9 (by decide) ?_
    refine fr_goto (tg := 14) (pc := 10) dX12_isProgram_10 rfl ?_
    refine fr_iret (pc := 14) dX12_isProgram_14 (Or.inr (Or.inl ⟨rfl, Or.inr rfl⟩)) ?_
    refine fr_ifcF (tg := 28) (pc := 9) dX12_flip_9 rfl rfl ?_
    refine fr_aload_n (pc := 12) dX12_flip_12 rfl rfl ?_
    refine fr_iload_n (pc := 13) dX12_flip_13 rfl rfl ?_
    refine fr_inVI (a := 142) (as := [(0, a1)]) (rest := []) (ls' := [(2, 142), (0, a1)]) (c1 := 0) (c2 := 0) (pc := 14) dX12_flip_14 pl_12_249 rfl ⟨Nat.le_of_ble_eq_true rfl, Nat.le_of_ble_eq_true rfl⟩ rfl rfl rfl s0_142 (Nat.le_of_ble_eq_true rfl) (by omega) rfl rfl (pm_zc _) ?_ (fun y M' h => h)
    refine fr_iload_n (pc := 0) dX12_isTest_0 rfl rfl ?_
    refine fr_iconst (pc := 1) dX12_isTest_1 (by decide) ?_
    refine fr_aload_n (pc := 2) dX12_isTest_2 rfl rfl ?_
    refine fr_getf (a := 142) (i := 24) (v := gI M 142 24) (t := 0) (pc := 3) dX12_isTest_3 rfl pf_12_246 rfl s0_142 rfl (gI_nf _ _ (by decide)) ?_
    refine fr_iconst (pc := 6) dX12_isTest_6 (by decide) ?_
    refine fr_isub (z := w32 ((gI M 142 24) - 1)) (pc := 7) dX12_isTest_7 rfl ?_
    refine fr_inSI (as := [(0, a1), (0, 0), (0, w32 ((gI M 142 24) - 1))]) (rest := []) (ls' := [(0, a1), (0, 0), (0, w32 ((gI M 142 24) - 1))]) (c1 := 0) (c2 := 0) (pc := 8) dX12_isTest_8 pl_12_147 rfl ⟨Nat.le_of_ble_eq_true rfl, Nat.le_of_ble_eq_true rfl⟩ rfl rfl  (by omega) rfl rfl (pm_zc _) ?_ (fun y M' h => h)
    refine fr_iload_n (pc := 0) dX12_within_0 rfl rfl ?_
    refine fr_iload_n (pc := 1) dX12_within_1 rfl rfl ?_
    refine fr_icm_lt (tg := 14) (pc := 2) dX12_within_2 rfl hq (fun hc2 hq => ?_) (fun hc2 hq => ?_)
    · refine fr_iconst (pc := 14) dX12_within_14 (by decide) ?_
      refine fr_iret (pc := 15) dX12_within_15 (Or.inr (Or.inl ⟨rfl, Or.inl rfl⟩)) ?_
      refine fr_iret (pc := 11) dX12_isTest_11 (Or.inr (Or.inl ⟨rfl, Or.inl rfl⟩)) ?_
      refine fr_ifcT (tg := 28) (pc := 17) dX12_flip_17 rfl rfl ?_
      refine fr_iconst (pc := 28) dX12_flip_28 (by decide) ?_
      exact fr_iret (pc := 29) dX12_flip_29 (Or.inl rfl) hq
    · refine fr_iload_n (pc := 5) dX12_within_5 rfl rfl ?_
      refine fr_iload_n (pc := 6) dX12_within_6 rfl rfl ?_
      refine fr_icm_gt (tg := 14) (pc := 7) dX12_within_7 rfl hq (fun hc3 hq => ?_) (fun hc3 hq => ?_)
      · refine fr_iconst (pc := 10) dX12_within_10 (by decide) ?_
        refine fr_goto (tg := 15) (pc := 11) dX12_within_11 rfl ?_
        refine fr_iret (pc := 15) dX12_within_15 (Or.inr (Or.inl ⟨rfl, Or.inr rfl⟩)) ?_
        refine fr_iret (pc := 11) dX12_isTest_11 (Or.inr (Or.inl ⟨rfl, Or.inr rfl⟩)) ?_
        refine fr_ifcF (tg := 28) (pc := 17) dX12_flip_17 rfl rfl ?_
        refine fr_aload_n (pc := 20) dX12_flip_20 rfl rfl ?_
        refine fr_iload_n (pc := 21) dX12_flip_21 rfl rfl ?_
        refine fr_inVI (a := 142) (as := [(0, a1)]) (rest := []) (ls' := [(2, 142), (0, a1)]) (c1 := 0) (c2 := 0) (pc := 22) dX12_flip_22 pl_12_302 rfl ⟨Nat.le_of_ble_eq_true rfl, Nat.le_of_ble_eq_true rfl⟩ rfl rfl rfl s0_142 (Nat.le_of_ble_eq_true rfl) (by omega) rfl rfl (pm_zc _) (hq sc _ (by omega)) (fun r5 M4 hq => ?_)
        refine fr_ifc_eq (tg := 30) (pc := 25) dX12_flip_25 rfl hq (fun hc6 hq => ?_) (fun hc6 hq => ?_)
        · refine fr_aload_n (pc := 30) dX12_flip_30 rfl rfl ?_
          refine fr_getf (a := 142) (i := 34) (v := gI M4 142 34) (t := 0) (pc := 31) dX12_flip_31 rfl pf_12_274 rfl s0_142 rfl rfl ?_
          refine fr_istore_n (ls2 := [(2, 142), (0, a1), (0, gI M4 142 34), (9, 0), (9, 0)]) (pc := 34) dX12_flip_34 rfl (Nat.le_of_ble_eq_true rfl) rfl ?_
          refine fr_bipush (pc := 35) dX12_flip_35 (by decide) ?_
          refine fr_istore_n (ls2 := [(2, 142), (0, a1), (0, gI M4 142 34), (0, (-2)), (9, 0)]) (pc := 37) dX12_flip_37 rfl (Nat.le_of_ble_eq_true rfl) rfl ?_
          refine fr_iconst (pc := 38) dX12_flip_38 (by decide) ?_
          refine fr_istore (ls2 := [(2, 142), (0, a1), (0, gI M4 142 34), (0, (-2)), (0, 0)]) (pc := 39) dX12_flip_39 rfl (Nat.le_of_ble_eq_true rfl) rfl ?_
          exact hq sc d hd
        · refine fr_iconst (pc := 28) dX12_flip_28 (by decide) ?_
          exact fr_iret (pc := 29) dX12_flip_29 (Or.inl rfl) hq
      · refine fr_iconst (pc := 14) dX12_within_14 (by decide) ?_
        refine fr_iret (pc := 15) dX12_within_15 (Or.inr (Or.inl ⟨rfl, Or.inl rfl⟩)) ?_
        refine fr_iret (pc := 11) dX12_isTest_11 (Or.inr (Or.inl ⟨rfl, Or.inl rfl⟩)) ?_
        refine fr_ifcT (tg := 28) (pc := 17) dX12_flip_17 rfl rfl ?_
        refine fr_iconst (pc := 28) dX12_flip_28 (by decide) ?_
        exact fr_iret (pc := 29) dX12_flip_29 (Or.inl rfl) hq
theorem k12_flip_41_r {l1 l2 l3 l4 : Int} {M : pm_M} {K : Int → pm_M → Prop} (hq : (if l4 < l2 then (if l3 = (-2) then k12_passes l1 (upI M 142 35 l4) (fun r4 M3 => (if r4 = 0 then k12_flip_41 l1 l2 (-2) (w32 (l4 + 1)) M3 K else k12_flip_41 l1 l2 l4 (w32 (l4 + 1)) M3 K)) else K l3 (upI M 142 35 (-1))) else K l3 (upI M 142 35 (-1)))) : k12_flip_41 l1 l2 l3 l4 M K := by
  intro sc d hd
  refine fr_iload (pc := 41) dX12_flip_41 rfl rfl ?_
  refine fr_iload_n (pc := 43) dX12_flip_43 rfl rfl ?_
  refine fr_icm_ge (tg := 81) (pc := 44) dX12_flip_44 rfl hq (fun hc1 hq => ?_) (fun hc1 hq => ?_)
  · refine fr_iload_n (pc := 47) dX12_flip_47 rfl rfl ?_
    refine fr_bipush (pc := 48) dX12_flip_48 (by decide) ?_
    refine fr_icm_ne (tg := 81) (pc := 50) dX12_flip_50 rfl hq (fun hc2 hq => ?_) (fun hc2 hq => ?_)
    · refine fr_aload_n (pc := 53) dX12_flip_53 rfl rfl ?_
      refine fr_iload (pc := 54) dX12_flip_54 rfl rfl ?_
      refine fr_put (a := 142) (i := 35) (pc := 56) dX12_flip_56 rfl pf_12_59 rfl s0_142 rfl rfl nf_142_35 rfl ?_
      refine fr_aload_n (pc := 59) dX12_flip_59 rfl rfl ?_
      refine fr_iload_n (pc := 60) dX12_flip_60 rfl rfl ?_
      refine fr_inVI (a := 142) (as := [(0, l1)]) (rest := []) (ls' := [(2, 142), (0, l1)]) (c1 := 0) (c2 := 0) (pc := 61) dX12_flip_61 pl_12_302 rfl ⟨Nat.le_of_ble_eq_true rfl, Nat.le_of_ble_eq_true rfl⟩ rfl rfl rfl s0_142 (Nat.le_of_ble_eq_true rfl) (by omega) rfl rfl (pm_zc _) (hq sc _ (by omega)) (fun r4 M3 hq => ?_)
      refine fr_ifc_eq (tg := 72) (pc := 64) dX12_flip_64 rfl hq (fun hc5 hq => ?_) (fun hc5 hq => ?_)
      · refine fr_bipush (pc := 72) dX12_flip_72 (by decide) ?_
        refine fr_istore_n (ls2 := [(2, 142), (0, l1), (0, l2), (0, (-2)), (0, l4)]) (pc := 74) dX12_flip_74 rfl (Nat.le_of_ble_eq_true rfl) rfl ?_
        refine fr_iinc (z := w32 (l4 + 1)) (ls2 := [(2, 142), (0, l1), (0, l2), (0, (-2)), (0, w32 (l4 + 1))]) (pc := 75) dX12_flip_75 (Nat.le_of_ble_eq_true rfl) rfl rfl rfl ?_
        refine fr_goto (tg := 41) (pc := 78) dX12_flip_78 rfl ?_
        exact hq sc d hd
      · refine fr_iload (pc := 67) dX12_flip_67 rfl rfl ?_
        refine fr_goto (tg := 74) (pc := 69) dX12_flip_69 rfl ?_
        refine fr_istore_n (ls2 := [(2, 142), (0, l1), (0, l2), (0, l4), (0, l4)]) (pc := 74) dX12_flip_74 rfl (Nat.le_of_ble_eq_true rfl) rfl ?_
        refine fr_iinc (z := w32 (l4 + 1)) (ls2 := [(2, 142), (0, l1), (0, l2), (0, l4), (0, w32 (l4 + 1))]) (pc := 75) dX12_flip_75 (Nat.le_of_ble_eq_true rfl) rfl rfl rfl ?_
        refine fr_goto (tg := 41) (pc := 78) dX12_flip_78 rfl ?_
        exact hq sc d hd
    · refine fr_aload_n (pc := 81) dX12_flip_81 rfl rfl ?_
      refine fr_iconst (pc := 82) dX12_flip_82 (by decide) ?_
      refine fr_put (a := 142) (i := 35) (pc := 83) dX12_flip_83 rfl pf_12_59 rfl s0_142 rfl rfl nf_142_35 rfl ?_
      refine fr_iload_n (pc := 86) dX12_flip_86 rfl rfl ?_
      exact fr_iret (pc := 87) dX12_flip_87 (Or.inl rfl) hq
  · refine fr_aload_n (pc := 81) dX12_flip_81 rfl rfl ?_
    refine fr_iconst (pc := 82) dX12_flip_82 (by decide) ?_
    refine fr_put (a := 142) (i := 35) (pc := 83) dX12_flip_83 rfl pf_12_59 rfl s0_142 rfl rfl nf_142_35 rfl ?_
    refine fr_iload_n (pc := 86) dX12_flip_86 rfl rfl ?_
    exact fr_iret (pc := 87) dX12_flip_87 (Or.inl rfl) hq
theorem k12_take_r {a1 a2 : Int} {M : pm_M} {K : Int → pm_M → Prop} (hq : (if a1 < 0 then K (-1) (upI M 142 0 0) else (if a1 ≤ w32 ((gI M 144 0) - 1) then (if gI M 142 60 = 20 then K (-1) (upI M 142 0 0) else k12_asks a1 a2 (upI M 142 0 0) (fun r5 M4 => (if r5 = 0 then K (-1) M4 else ((0 ≤ gI M4 142 60 ∧ gI M4 142 60 < 20) ∧ ((0 ≤ a1 ∧ a1 < 800) ∧ ((0 ≤ a1 ∧ a1 < 60) ∧ K (w32 ((gI M4 142 60) + 1)) (upI (upI (upI (upI (upI (upI M4 174 (gI M4 142 60) a1) 175 (gI M4 142 60) (gI M4 146 a1)) 176 (gI M4 142 60) (gI M4 153 a1)) 142 60 (w32 ((gI M4 142 60) + 1))) 146 a1 (gI M4 142 45)) 153 a1 (gI M4 142 46)))))))) else K (-1) (upI M 142 0 0)))) : k12_take a1 a2 M K := by
  intro sc d hd
  refine fr_aload_n (pc := 0) dX12_take_0 rfl rfl ?_
  refine fr_iconst (pc := 1) dX12_take_1 (by decide) ?_
  refine fr_put (a := 142) (i := 0) (pc := 2) dX12_take_2 rfl pf_12_121 rfl s0_142 rfl rfl nf_142_0 rfl ?_
  refine fr_aload_n (pc := 5) dX12_take_5 rfl rfl ?_
  refine fr_iload_n (pc := 6) dX12_take_6 rfl rfl ?_
  refine fr_inVI (a := 142) (as := [(0, a1)]) (rest := []) (ls' := [(2, 142), (0, a1)]) (c1 := 0) (c2 := 0) (pc := 7) dX12_take_7 pl_12_305 rfl ⟨Nat.le_of_ble_eq_true rfl, Nat.le_of_ble_eq_true rfl⟩ rfl rfl rfl s0_142 (Nat.le_of_ble_eq_true rfl) (by omega) rfl rfl (pm_zc _) ?_ (fun y M' h => h)
  refine fr_iload_n (pc := 0) dX12_isNode_0 rfl rfl ?_
  refine fr_iconst (pc := 1) dX12_isNode_1 (by decide) ?_
  refine fr_aload_n (pc := 2) dX12_isNode_2 rfl rfl ?_
  refine fr_getr (a := 142) (pc := 3) dX12_isNode_3 rfl pf_12_13 s0_142 rfl rf_142_9 ?_
  refine fr_iconst (pc := 6) dX12_isNode_6 (by decide) ?_
  refine fr_iaload (a := 144) (v := gI M 144 0) (pc := 7) dX12_isNode_7 rfl s0_144 (by decide) (gI_ne _ _ _ _ (by decide)) ?_
  refine fr_iconst (pc := 8) dX12_isNode_8 (by decide) ?_
  refine fr_isub (z := w32 ((gI M 144 0) - 1)) (pc := 9) dX12_isNode_9 rfl ?_
  refine fr_inSI (as := [(0, a1), (0, 0), (0, w32 ((gI M 144 0) - 1))]) (rest := []) (ls' := [(0, a1), (0, 0), (0, w32 ((gI M 144 0) - 1))]) (c1 := 0) (c2 := 0) (pc := 10) dX12_isNode_10 pl_12_147 rfl ⟨Nat.le_of_ble_eq_true rfl, Nat.le_of_ble_eq_true rfl⟩ rfl rfl  (by omega) rfl rfl (pm_zc _) ?_ (fun y M' h => h)
  refine fr_iload_n (pc := 0) dX12_within_0 rfl rfl ?_
  refine fr_iload_n (pc := 1) dX12_within_1 rfl rfl ?_
  refine fr_icm_lt (tg := 14) (pc := 2) dX12_within_2 rfl hq (fun hc1 hq => ?_) (fun hc1 hq => ?_)
  · refine fr_iconst (pc := 14) dX12_within_14 (by decide) ?_
    refine fr_iret (pc := 15) dX12_within_15 (Or.inr (Or.inl ⟨rfl, Or.inl rfl⟩)) ?_
    refine fr_iret (pc := 13) dX12_isNode_13 (Or.inr (Or.inl ⟨rfl, Or.inl rfl⟩)) ?_
    refine fr_ifcT (tg := 31) (pc := 10) dX12_take_10 rfl rfl ?_
    refine fr_iconst (pc := 31) dX12_take_31 (by decide) ?_
    exact fr_iret (pc := 32) dX12_take_32 (Or.inl rfl) hq
  · refine fr_iload_n (pc := 5) dX12_within_5 rfl rfl ?_
    refine fr_iload_n (pc := 6) dX12_within_6 rfl rfl ?_
    refine fr_icm_gt (tg := 14) (pc := 7) dX12_within_7 rfl hq (fun hc2 hq => ?_) (fun hc2 hq => ?_)
    · refine fr_iconst (pc := 10) dX12_within_10 (by decide) ?_
      refine fr_goto (tg := 15) (pc := 11) dX12_within_11 rfl ?_
      refine fr_iret (pc := 15) dX12_within_15 (Or.inr (Or.inl ⟨rfl, Or.inr rfl⟩)) ?_
      refine fr_iret (pc := 13) dX12_isNode_13 (Or.inr (Or.inl ⟨rfl, Or.inr rfl⟩)) ?_
      refine fr_ifcF (tg := 31) (pc := 10) dX12_take_10 rfl rfl ?_
      refine fr_aload_n (pc := 13) dX12_take_13 rfl rfl ?_
      refine fr_getf (a := 142) (i := 60) (v := gI M 142 60) (t := 0) (pc := 14) dX12_take_14 rfl pf_12_238 rfl s0_142 rfl (gI_nf _ _ (by decide)) ?_
      refine fr_bipush (pc := 17) dX12_take_17 (by decide) ?_
      refine fr_icm_eq (tg := 31) (pc := 19) dX12_take_19 rfl hq (fun hc3 hq => ?_) (fun hc3 hq => ?_)
      · refine fr_iconst (pc := 31) dX12_take_31 (by decide) ?_
        exact fr_iret (pc := 32) dX12_take_32 (Or.inl rfl) hq
      · refine fr_aload_n (pc := 22) dX12_take_22 rfl rfl ?_
        refine fr_iload_n (pc := 23) dX12_take_23 rfl rfl ?_
        refine fr_iload_n (pc := 24) dX12_take_24 rfl rfl ?_
        refine fr_inVI (a := 142) (as := [(0, a1), (0, a2)]) (rest := []) (ls' := [(2, 142), (0, a1), (0, a2)]) (c1 := 0) (c2 := 0) (pc := 25) dX12_take_25 pl_12_358 rfl ⟨Nat.le_of_ble_eq_true rfl, Nat.le_of_ble_eq_true rfl⟩ rfl rfl rfl s0_142 (Nat.le_of_ble_eq_true rfl) (by omega) rfl rfl (pm_zc _) (hq sc _ (by omega)) (fun r5 M4 hq => ?_)
        refine fr_ifc_ne (tg := 33) (pc := 28) dX12_take_28 rfl hq (fun hc6 hq => ?_) (fun hc6 hq => ?_)
        · refine fr_iconst (pc := 31) dX12_take_31 (by decide) ?_
          exact fr_iret (pc := 32) dX12_take_32 (Or.inl rfl) hq
        · refine fr_aload_n (pc := 33) dX12_take_33 rfl rfl ?_
          refine fr_getr (a := 142) (pc := 34) dX12_take_34 rfl pf_12_112 s0_142 rfl rf_142_61 ?_
          refine fr_aload_n (pc := 37) dX12_take_37 rfl rfl ?_
          refine fr_getf (a := 142) (i := 60) (v := gI M4 142 60) (t := 0) (pc := 38) dX12_take_38 rfl pf_12_238 rfl s0_142 rfl rfl ?_
          refine fr_iload_n (pc := 41) dX12_take_41 rfl rfl ?_
          obtain ⟨hb7, hq⟩ := hq
          refine fr_iastore (a := 174) (pc := 42) dX12_take_42 rfl s0_174 hb7 nr_174 ?_
          refine fr_aload_n (pc := 43) dX12_take_43 rfl rfl ?_
          refine fr_getr (a := 142) (pc := 44) dX12_take_44 rfl pf_12_115 s0_142 rfl rf_142_62 ?_
          refine fr_aload_n (pc := 47) dX12_take_47 rfl rfl ?_
          refine fr_getf (a := 142) (i := 60) (v := gI M4 142 60) (t := 0) (pc := 48) dX12_take_48 rfl pf_12_238 rfl s0_142 rfl (gI_ne _ _ _ _ (by decide)) ?_
          refine fr_aload_n (pc := 51) dX12_take_51 rfl rfl ?_
          refine fr_getr (a := 142) (pc := 52) dX12_take_52 rfl pf_12_20 s0_142 rfl rf_142_11 ?_
          refine fr_iload_n (pc := 55) dX12_take_55 rfl rfl ?_
          obtain ⟨hb8, hq⟩ := hq
          refine fr_iaload (a := 146) (v := gI M4 146 a1) (pc := 56) dX12_take_56 rfl s0_146 hb8 (gI_ne _ _ _ _ (by decide)) ?_
          refine fr_iastore (a := 175) (pc := 57) dX12_take_57 rfl s0_175 hb7 nr_175 ?_
          refine fr_aload_n (pc := 58) dX12_take_58 rfl rfl ?_
          refine fr_getr (a := 142) (pc := 59) dX12_take_59 rfl pf_12_118 s0_142 rfl rf_142_63 ?_
          refine fr_aload_n (pc := 62) dX12_take_62 rfl rfl ?_
          refine fr_getf (a := 142) (i := 60) (v := gI M4 142 60) (t := 0) (pc := 63) dX12_take_63 rfl pf_12_238 rfl s0_142 rfl ((gI_ne _ _ _ _ (by decide)).trans (gI_ne _ _ _ _ (by decide))) ?_
          refine fr_aload_n (pc := 66) dX12_take_66 rfl rfl ?_
          refine fr_getr (a := 142) (pc := 67) dX12_take_67 rfl pf_12_41 s0_142 rfl rf_142_23 ?_
          refine fr_iload_n (pc := 70) dX12_take_70 rfl rfl ?_
          obtain ⟨hb9, hq⟩ := hq
          refine fr_iaload (a := 153) (v := gI M4 153 a1) (pc := 71) dX12_take_71 rfl s0_153 hb9 ((gI_ne _ _ _ _ (by decide)).trans (gI_ne _ _ _ _ (by decide))) ?_
          refine fr_iastore (a := 176) (pc := 72) dX12_take_72 rfl s0_176 hb7 nr_176 ?_
          refine fr_aload_n (pc := 73) dX12_take_73 rfl rfl ?_
          refine fr_dup (pc := 74) dX12_take_74 pm_t2 ?_
          refine fr_getf (a := 142) (i := 60) (v := gI M4 142 60) (t := 0) (pc := 75) dX12_take_75 rfl pf_12_238 rfl s0_142 rfl ((gI_ne _ _ _ _ (by decide)).trans ((gI_ne _ _ _ _ (by decide)).trans (gI_ne _ _ _ _ (by decide)))) ?_
          refine fr_iconst (pc := 78) dX12_take_78 (by decide) ?_
          refine fr_iadd (z := w32 ((gI M4 142 60) + 1)) (pc := 79) dX12_take_79 rfl ?_
          refine fr_put (a := 142) (i := 60) (pc := 80) dX12_take_80 rfl pf_12_238 rfl s0_142 rfl rfl nf_142_60 rfl ?_
          refine fr_aload_n (pc := 83) dX12_take_83 rfl rfl ?_
          refine fr_getr (a := 142) (pc := 84) dX12_take_84 rfl pf_12_20 s0_142 rfl rf_142_11 ?_
          refine fr_iload_n (pc := 87) dX12_take_87 rfl rfl ?_
          refine fr_aload_n (pc := 88) dX12_take_88 rfl rfl ?_
          refine fr_getf (a := 142) (i := 45) (v := gI M4 142 45) (t := 0) (pc := 89) dX12_take_89 rfl pf_12_345 rfl s0_142 rfl ((gI_nf _ _ (by decide)).trans ((gI_ne _ _ _ _ (by decide)).trans ((gI_ne _ _ _ _ (by decide)).trans (gI_ne _ _ _ _ (by decide))))) ?_
          refine fr_iastore (a := 146) (pc := 92) dX12_take_92 rfl s0_146 ⟨hb9.1, by omega⟩ nr_146 ?_
          refine fr_aload_n (pc := 93) dX12_take_93 rfl rfl ?_
          refine fr_getr (a := 142) (pc := 94) dX12_take_94 rfl pf_12_41 s0_142 rfl rf_142_23 ?_
          refine fr_iload_n (pc := 97) dX12_take_97 rfl rfl ?_
          refine fr_aload_n (pc := 98) dX12_take_98 rfl rfl ?_
          refine fr_getf (a := 142) (i := 46) (v := gI M4 142 46) (t := 0) (pc := 99) dX12_take_99 rfl pf_12_348 rfl s0_142 rfl ((gI_ne _ _ _ _ (by decide)).trans ((gI_nf _ _ (by decide)).trans ((gI_ne _ _ _ _ (by decide)).trans ((gI_ne _ _ _ _ (by decide)).trans (gI_ne _ _ _ _ (by decide)))))) ?_
          refine fr_iastore (a := 153) (pc := 102) dX12_take_102 rfl s0_153 hb9 nr_153 ?_
          refine fr_aload_n (pc := 103) dX12_take_103 rfl rfl ?_
          refine fr_getf (a := 142) (i := 60) (v := w32 ((gI M4 142 60) + 1)) (t := 0) (pc := 104) dX12_take_104 rfl pf_12_238 rfl s0_142 rfl ((gI_ne _ _ _ _ (by decide)).trans ((gI_ne _ _ _ _ (by decide)).trans (gI_eq _ _ _ _))) ?_
          exact fr_iret (pc := 107) dX12_take_107 (Or.inl rfl) hq
    · refine fr_iconst (pc := 14) dX12_within_14 (by decide) ?_
      refine fr_iret (pc := 15) dX12_within_15 (Or.inr (Or.inl ⟨rfl, Or.inl rfl⟩)) ?_
      refine fr_iret (pc := 13) dX12_isNode_13 (Or.inr (Or.inl ⟨rfl, Or.inl rfl⟩)) ?_
      refine fr_ifcT (tg := 31) (pc := 10) dX12_take_10 rfl rfl ?_
      refine fr_iconst (pc := 31) dX12_take_31 (by decide) ?_
      exact fr_iret (pc := 32) dX12_take_32 (Or.inl rfl) hq
theorem k12_undo_r {M : pm_M} {K : Int → pm_M → Prop} (hq : (if gI M 142 60 = 0 then K (-1) (upI M 142 0 0) else ((0 ≤ w32 ((gI M 142 60) - 1) ∧ w32 ((gI M 142 60) - 1) < 20) ∧ ((0 ≤ gI M 174 (w32 ((gI M 142 60) - 1)) ∧ gI M 174 (w32 ((gI M 142 60) - 1)) < 800) ∧ ((0 ≤ gI M 174 (w32 ((gI M 142 60) - 1)) ∧ gI M 174 (w32 ((gI M 142 60) - 1)) < 60) ∧ K (w32 ((gI M 142 60) - 1)) (upI (upI (upI (upI M 142 0 0) 142 60 (w32 ((gI M 142 60) - 1))) 146 (gI M 174 (w32 ((gI M 142 60) - 1))) (gI M 175 (w32 ((gI M 142 60) - 1)))) 153 (gI M 174 (w32 ((gI M 142 60) - 1))) (gI M 176 (w32 ((gI M 142 60) - 1))))))))) : k12_undo M K := by
  intro sc d hd
  refine fr_aload_n (pc := 0) dX12_undo_0 rfl rfl ?_
  refine fr_iconst (pc := 1) dX12_undo_1 (by decide) ?_
  refine fr_put (a := 142) (i := 0) (pc := 2) dX12_undo_2 rfl pf_12_121 rfl s0_142 rfl rfl nf_142_0 rfl ?_
  refine fr_aload_n (pc := 5) dX12_undo_5 rfl rfl ?_
  refine fr_getf (a := 142) (i := 60) (v := gI M 142 60) (t := 0) (pc := 6) dX12_undo_6 rfl pf_12_238 rfl s0_142 rfl (gI_nf _ _ (by decide)) ?_
  refine fr_ifc_ne (tg := 14) (pc := 9) dX12_undo_9 rfl hq (fun hc1 hq => ?_) (fun hc1 hq => ?_)
  · refine fr_iconst (pc := 12) dX12_undo_12 (by decide) ?_
    exact fr_iret (pc := 13) dX12_undo_13 (Or.inl rfl) hq
  · refine fr_aload_n (pc := 14) dX12_undo_14 rfl rfl ?_
    refine fr_dup (pc := 15) dX12_undo_15 pm_t2 ?_
    refine fr_getf (a := 142) (i := 60) (v := gI M 142 60) (t := 0) (pc := 16) dX12_undo_16 rfl pf_12_238 rfl s0_142 rfl (gI_nf _ _ (by decide)) ?_
    refine fr_iconst (pc := 19) dX12_undo_19 (by decide) ?_
    refine fr_isub (z := w32 ((gI M 142 60) - 1)) (pc := 20) dX12_undo_20 rfl ?_
    refine fr_put (a := 142) (i := 60) (pc := 21) dX12_undo_21 rfl pf_12_238 rfl s0_142 rfl rfl nf_142_60 rfl ?_
    refine fr_aload_n (pc := 24) dX12_undo_24 rfl rfl ?_
    refine fr_getr (a := 142) (pc := 25) dX12_undo_25 rfl pf_12_20 s0_142 rfl rf_142_11 ?_
    refine fr_aload_n (pc := 28) dX12_undo_28 rfl rfl ?_
    refine fr_getr (a := 142) (pc := 29) dX12_undo_29 rfl pf_12_112 s0_142 rfl rf_142_61 ?_
    refine fr_aload_n (pc := 32) dX12_undo_32 rfl rfl ?_
    refine fr_getf (a := 142) (i := 60) (v := w32 ((gI M 142 60) - 1)) (t := 0) (pc := 33) dX12_undo_33 rfl pf_12_238 rfl s0_142 rfl (gI_eq _ _ _ _) ?_
    obtain ⟨hb2, hq⟩ := hq
    refine fr_iaload (a := 174) (v := gI M 174 (w32 ((gI M 142 60) - 1))) (pc := 36) dX12_undo_36 rfl s0_174 hb2 ((gI_ne _ _ _ _ (by decide)).trans (gI_ne _ _ _ _ (by decide))) ?_
    refine fr_aload_n (pc := 37) dX12_undo_37 rfl rfl ?_
    refine fr_getr (a := 142) (pc := 38) dX12_undo_38 rfl pf_12_115 s0_142 rfl rf_142_62 ?_
    refine fr_aload_n (pc := 41) dX12_undo_41 rfl rfl ?_
    refine fr_getf (a := 142) (i := 60) (v := w32 ((gI M 142 60) - 1)) (t := 0) (pc := 42) dX12_undo_42 rfl pf_12_238 rfl s0_142 rfl (gI_eq _ _ _ _) ?_
    refine fr_iaload (a := 175) (v := gI M 175 (w32 ((gI M 142 60) - 1))) (pc := 45) dX12_undo_45 rfl s0_175 hb2 ((gI_ne _ _ _ _ (by decide)).trans (gI_ne _ _ _ _ (by decide))) ?_
    obtain ⟨hb3, hq⟩ := hq
    refine fr_iastore (a := 146) (pc := 46) dX12_undo_46 rfl s0_146 hb3 nr_146 ?_
    refine fr_aload_n (pc := 47) dX12_undo_47 rfl rfl ?_
    refine fr_getr (a := 142) (pc := 48) dX12_undo_48 rfl pf_12_41 s0_142 rfl rf_142_23 ?_
    refine fr_aload_n (pc := 51) dX12_undo_51 rfl rfl ?_
    refine fr_getr (a := 142) (pc := 52) dX12_undo_52 rfl pf_12_112 s0_142 rfl rf_142_61 ?_
    refine fr_aload_n (pc := 55) dX12_undo_55 rfl rfl ?_
    refine fr_getf (a := 142) (i := 60) (v := w32 ((gI M 142 60) - 1)) (t := 0) (pc := 56) dX12_undo_56 rfl pf_12_238 rfl s0_142 rfl ((gI_ne _ _ _ _ (by decide)).trans (gI_eq _ _ _ _)) ?_
    refine fr_iaload (a := 174) (v := gI M 174 (w32 ((gI M 142 60) - 1))) (pc := 59) dX12_undo_59 rfl s0_174 hb2 ((gI_ne _ _ _ _ (by decide)).trans ((gI_ne _ _ _ _ (by decide)).trans (gI_ne _ _ _ _ (by decide)))) ?_
    refine fr_aload_n (pc := 60) dX12_undo_60 rfl rfl ?_
    refine fr_getr (a := 142) (pc := 61) dX12_undo_61 rfl pf_12_118 s0_142 rfl rf_142_63 ?_
    refine fr_aload_n (pc := 64) dX12_undo_64 rfl rfl ?_
    refine fr_getf (a := 142) (i := 60) (v := w32 ((gI M 142 60) - 1)) (t := 0) (pc := 65) dX12_undo_65 rfl pf_12_238 rfl s0_142 rfl ((gI_ne _ _ _ _ (by decide)).trans (gI_eq _ _ _ _)) ?_
    refine fr_iaload (a := 176) (v := gI M 176 (w32 ((gI M 142 60) - 1))) (pc := 68) dX12_undo_68 rfl s0_176 hb2 ((gI_ne _ _ _ _ (by decide)).trans ((gI_ne _ _ _ _ (by decide)).trans (gI_ne _ _ _ _ (by decide)))) ?_
    obtain ⟨hb4, hq⟩ := hq
    refine fr_iastore (a := 153) (pc := 69) dX12_undo_69 rfl s0_153 hb4 nr_153 ?_
    refine fr_aload_n (pc := 70) dX12_undo_70 rfl rfl ?_
    refine fr_getf (a := 142) (i := 60) (v := w32 ((gI M 142 60) - 1)) (t := 0) (pc := 71) dX12_undo_71 rfl pf_12_238 rfl s0_142 rfl ((gI_ne _ _ _ _ (by decide)).trans ((gI_ne _ _ _ _ (by decide)).trans (gI_eq _ _ _ _))) ?_
    exact fr_iret (pc := 74) dX12_undo_74 (Or.inl rfl) hq
theorem k12_count_r {a1 : Int} {M : pm_M} {K : Int → pm_M → Prop} (hq : (if a1 = 0 then K (gI M 144 0) (upI M 142 0 0) else (if a1 = 1 then K (gI M 144 1) (upI M 142 0 0) else (if a1 = 2 then K (gI M 142 24) (upI M 142 0 0) else (if a1 = 3 then k12_manyTests 1 (upI M 142 0 0) (fun r6 M5 => K r6 M5) else (if a1 = 4 then (if gI M 144 0 ≤ 0 then K 0 (upI M 142 0 0) else k12_manyPass 0 (upI M 142 0 0) (fun r10 M9 => K r10 M9)) else (if a1 = 5 then (if gI M 144 0 ≤ 0 then K 0 (upI M 142 0 0) else k12_manyPass 1 (upI M 142 0 0) (fun r14 M13 => K r14 M13)) else (if a1 = 6 then k12_bits (gI M 142 22) (upI M 142 0 0) (fun r17 M16 => K r17 M16) else (if a1 = 7 then K (gI M 142 60) (upI M 142 0 0) else (if a1 = 8 then K (gI M 142 2) (upI M 142 0 0) else (if a1 = 9 then k12_allChanges (upI M 142 0 0) (fun r22 M21 => K r22 M21) else K (-1) (upI M 142 0 0)))))))))))) : k12_count a1 M K := by
  intro sc d hd
  refine fr_aload_n (pc := 0) dX12_count_0 rfl rfl ?_
  refine fr_iconst (pc := 1) dX12_count_1 (by decide) ?_
  refine fr_put (a := 142) (i := 0) (pc := 2) dX12_count_2 rfl pf_12_121 rfl s0_142 rfl rfl nf_142_0 rfl ?_
  refine fr_iload_n (pc := 5) dX12_count_5 rfl rfl ?_
  refine pm_ite hq (fun hc1 hq => ?_) (fun hc1 hq => ?_)
  · refine fr_tabV (tg := 60) (off := 54) (v := 0) (pc := 6) dX12_count_6 hc1 (by decide) rfl rfl ?_
    refine fr_aload_n (pc := 60) dX12_count_60 rfl rfl ?_
    refine fr_getr (a := 142) (pc := 61) dX12_count_61 rfl pf_12_13 s0_142 rfl rf_142_9 ?_
    refine fr_iconst (pc := 64) dX12_count_64 (by decide) ?_
    refine fr_iaload (a := 144) (v := gI M 144 0) (pc := 65) dX12_count_65 rfl s0_144 (by decide) (gI_ne _ _ _ _ (by decide)) ?_
    exact fr_iret (pc := 66) dX12_count_66 (Or.inl rfl) hq
  · refine pm_ite hq (fun hc2 hq => ?_) (fun hc2 hq => ?_)
    · refine fr_tabV (tg := 67) (off := 61) (v := 1) (pc := 6) dX12_count_6 hc2 (by decide) rfl rfl ?_
      refine fr_aload_n (pc := 67) dX12_count_67 rfl rfl ?_
      refine fr_getr (a := 142) (pc := 68) dX12_count_68 rfl pf_12_13 s0_142 rfl rf_142_9 ?_
      refine fr_iconst (pc := 71) dX12_count_71 (by decide) ?_
      refine fr_iaload (a := 144) (v := gI M 144 1) (pc := 72) dX12_count_72 rfl s0_144 (by decide) (gI_ne _ _ _ _ (by decide)) ?_
      exact fr_iret (pc := 73) dX12_count_73 (Or.inl rfl) hq
    · refine pm_ite hq (fun hc3 hq => ?_) (fun hc3 hq => ?_)
      · refine fr_tabV (tg := 74) (off := 68) (v := 2) (pc := 6) dX12_count_6 hc3 (by decide) rfl rfl ?_
        refine fr_aload_n (pc := 74) dX12_count_74 rfl rfl ?_
        refine fr_getf (a := 142) (i := 24) (v := gI M 142 24) (t := 0) (pc := 75) dX12_count_75 rfl pf_12_246 rfl s0_142 rfl (gI_nf _ _ (by decide)) ?_
        exact fr_iret (pc := 78) dX12_count_78 (Or.inl rfl) hq
      · refine pm_ite hq (fun hc4 hq => ?_) (fun hc4 hq => ?_)
        · refine fr_tabV (tg := 79) (off := 73) (v := 3) (pc := 6) dX12_count_6 hc4 (by decide) rfl rfl ?_
          refine fr_aload_n (pc := 79) dX12_count_79 rfl rfl ?_
          refine fr_iconst (pc := 80) dX12_count_80 (by decide) ?_
          refine fr_inVI (a := 142) (as := [(0, 1)]) (rest := []) (ls' := [(2, 142), (0, 1), (9, 0), (9, 0)]) (c1 := 0) (c2 := 0) (pc := 81) dX12_count_81 pl_12_392 rfl ⟨Nat.le_of_ble_eq_true rfl, Nat.le_of_ble_eq_true rfl⟩ rfl rfl rfl s0_142 (Nat.le_of_ble_eq_true rfl) (by omega) rfl rfl (pm_zc _) (hq sc _ (by omega)) (fun r6 M5 hq => ?_)
          exact fr_iret (pc := 84) dX12_count_84 (Or.inl rfl) hq
        · refine pm_ite hq (fun hc7 hq => ?_) (fun hc7 hq => ?_)
          · refine fr_tabV (tg := 85) (off := 79) (v := 4) (pc := 6) dX12_count_6 hc7 (by decide) rfl rfl ?_
            refine fr_aload_n (pc := 85) dX12_count_85 rfl rfl ?_
            refine fr_inVI (a := 142) (as := []) (rest := []) (ls' := [(2, 142)]) (c1 := 0) (c2 := 0) (pc := 86) dX12_count_86 pl_12_299 rfl ⟨Nat.le_of_ble_eq_true rfl, Nat.le_of_ble_eq_true rfl⟩ rfl rfl rfl s0_142 (Nat.le_of_ble_eq_true rfl) (by omega) rfl rfl (pm_zc _) ?_ (fun y M' h => h)
            refine fr_aload_n (pc := 0) dX12_isProgram_0 rfl rfl ?_
            refine fr_getr (a := 142) (pc := 1) dX12_isProgram_1 rfl pf_12_13 s0_142 rfl rf_142_9 ?_
            refine fr_iconst (pc := 4) dX12_isProgram_4 (by decide) ?_
            refine fr_iaload (a := 144) (v := gI M 144 0) (pc := 5) dX12_isProgram_5 rfl s0_144 (by decide) (gI_ne _ _ _ _ (by decide)) ?_
            refine fr_ifc_le (tg := 13) (pc := 6) dX12_isProgram_6 rfl hq (fun hc8 hq => ?_) (fun hc8 hq => ?_)
            · refine fr_iconst (pc := 13) dX12_isProgram_13 (by decide) ?_
              refine fr_iret (pc := 14) dX12_isProgram_14 (Or.inr (Or.inl ⟨rfl, Or.inl rfl⟩)) ?_
              refine fr_ifcT (tg := 100) (pc := 89) dX12_count_89 rfl rfl ?_
              refine fr_iconst (pc := 100) dX12_count_100 (by decide) ?_
              exact fr_iret (pc := 101) dX12_count_101 (Or.inl rfl) hq
            · refine fr_iconst (pc := 9) dX12_isProgram_9 (by decide) ?_
              refine fr_goto (tg := 14) (pc := 10) dX12_isProgram_10 rfl ?_
              refine fr_iret (pc := 14) dX12_isProgram_14 (Or.inr (Or.inl ⟨rfl, Or.inr rfl⟩)) ?_
              refine fr_ifcF (tg := 100) (pc := 89) dX12_count_89 rfl rfl ?_
              refine fr_aload_n (pc := 92) dX12_count_92 rfl rfl ?_
              refine fr_iconst (pc := 93) dX12_count_93 (by decide) ?_
              refine fr_inVI (a := 142) (as := [(0, 0)]) (rest := []) (ls' := [(2, 142), (0, 0), (9, 0), (9, 0)]) (c1 := 0) (c2 := 0) (pc := 94) dX12_count_94 pl_12_370 rfl ⟨Nat.le_of_ble_eq_true rfl, Nat.le_of_ble_eq_true rfl⟩ rfl rfl rfl s0_142 (Nat.le_of_ble_eq_true rfl) (by omega) rfl rfl (pm_zc _) (hq sc _ (by omega)) (fun r10 M9 hq => ?_)
              refine fr_goto (tg := 101) (pc := 97) dX12_count_97 rfl ?_
              exact fr_iret (pc := 101) dX12_count_101 (Or.inl rfl) hq
          · refine pm_ite hq (fun hc11 hq => ?_) (fun hc11 hq => ?_)
            · refine fr_tabV (tg := 102) (off := 96) (v := 5) (pc := 6) dX12_count_6 hc11 (by decide) rfl rfl ?_
              refine fr_aload_n (pc := 102) dX12_count_102 rfl rfl ?_
              refine fr_inVI (a := 142) (as := []) (rest := []) (ls' := [(2, 142)]) (c1 := 0) (c2 := 0) (pc := 103) dX12_count_103 pl_12_299 rfl ⟨Nat.le_of_ble_eq_true rfl, Nat.le_of_ble_eq_true rfl⟩ rfl rfl rfl s0_142 (Nat.le_of_ble_eq_true rfl) (by omega) rfl rfl (pm_zc _) ?_ (fun y M' h => h)
              refine fr_aload_n (pc := 0) dX12_isProgram_0 rfl rfl ?_
              refine fr_getr (a := 142) (pc := 1) dX12_isProgram_1 rfl pf_12_13 s0_142 rfl rf_142_9 ?_
              refine fr_iconst (pc := 4) dX12_isProgram_4 (by decide) ?_
              refine fr_iaload (a := 144) (v := gI M 144 0) (pc := 5) dX12_isProgram_5 rfl s0_144 (by decide) (gI_ne _ _ _ _ (by decide)) ?_
              refine fr_ifc_le (tg := 13) (pc := 6) dX12_isProgram_6 rfl hq (fun hc12 hq => ?_) (fun hc12 hq => ?_)
              · refine fr_iconst (pc := 13) dX12_isProgram_13 (by decide) ?_
                refine fr_iret (pc := 14) dX12_isProgram_14 (Or.inr (Or.inl ⟨rfl, Or.inl rfl⟩)) ?_
                refine fr_ifcT (tg := 117) (pc := 106) dX12_count_106 rfl rfl ?_
                refine fr_iconst (pc := 117) dX12_count_117 (by decide) ?_
                exact fr_iret (pc := 118) dX12_count_118 (Or.inl rfl) hq
              · refine fr_iconst (pc := 9) dX12_isProgram_9 (by decide) ?_
                refine fr_goto (tg := 14) (pc := 10) dX12_isProgram_10 rfl ?_
                refine fr_iret (pc := 14) dX12_isProgram_14 (Or.inr (Or.inl ⟨rfl, Or.inr rfl⟩)) ?_
                refine fr_ifcF (tg := 117) (pc := 106) dX12_count_106 rfl rfl ?_
                refine fr_aload_n (pc := 109) dX12_count_109 rfl rfl ?_
                refine fr_iconst (pc := 110) dX12_count_110 (by decide) ?_
                refine fr_inVI (a := 142) (as := [(0, 1)]) (rest := []) (ls' := [(2, 142), (0, 1), (9, 0), (9, 0)]) (c1 := 0) (c2 := 0) (pc := 111) dX12_count_111 pl_12_370 rfl ⟨Nat.le_of_ble_eq_true rfl, Nat.le_of_ble_eq_true rfl⟩ rfl rfl rfl s0_142 (Nat.le_of_ble_eq_true rfl) (by omega) rfl rfl (pm_zc _) (hq sc _ (by omega)) (fun r14 M13 hq => ?_)
                refine fr_goto (tg := 118) (pc := 114) dX12_count_114 rfl ?_
                exact fr_iret (pc := 118) dX12_count_118 (Or.inl rfl) hq
            · refine pm_ite hq (fun hc15 hq => ?_) (fun hc15 hq => ?_)
              · refine fr_tabV (tg := 119) (off := 113) (v := 6) (pc := 6) dX12_count_6 hc15 (by decide) rfl rfl ?_
                refine fr_aload_n (pc := 119) dX12_count_119 rfl rfl ?_
                refine fr_getf (a := 142) (i := 22) (v := gI M 142 22) (t := 0) (pc := 120) dX12_count_120 rfl pf_12_235 rfl s0_142 rfl (gI_nf _ _ (by decide)) ?_
                refine fr_inSI (as := [(0, gI M 142 22)]) (rest := []) (ls' := [(0, gI M 142 22), (9, 0), (9, 0)]) (c1 := 0) (c2 := 0) (pc := 123) dX12_count_123 pl_12_406 rfl ⟨Nat.le_of_ble_eq_true rfl, Nat.le_of_ble_eq_true rfl⟩ rfl rfl  (by omega) rfl rfl (pm_zc _) (hq sc _ (by omega)) (fun r17 M16 hq => ?_)
                exact fr_iret (pc := 126) dX12_count_126 (Or.inl rfl) hq
              · refine pm_ite hq (fun hc18 hq => ?_) (fun hc18 hq => ?_)
                · refine fr_tabV (tg := 127) (off := 121) (v := 7) (pc := 6) dX12_count_6 hc18 (by decide) rfl rfl ?_
                  refine fr_aload_n (pc := 127) dX12_count_127 rfl rfl ?_
                  refine fr_getf (a := 142) (i := 60) (v := gI M 142 60) (t := 0) (pc := 128) dX12_count_128 rfl pf_12_238 rfl s0_142 rfl (gI_nf _ _ (by decide)) ?_
                  exact fr_iret (pc := 131) dX12_count_131 (Or.inl rfl) hq
                · refine pm_ite hq (fun hc19 hq => ?_) (fun hc19 hq => ?_)
                  · refine fr_tabV (tg := 132) (off := 126) (v := 8) (pc := 6) dX12_count_6 hc19 (by decide) rfl rfl ?_
                    refine fr_aload_n (pc := 132) dX12_count_132 rfl rfl ?_
                    refine fr_getf (a := 142) (i := 2) (v := gI M 142 2) (t := 0) (pc := 133) dX12_count_133 rfl pf_12_124 rfl s0_142 rfl (gI_nf _ _ (by decide)) ?_
                    exact fr_iret (pc := 136) dX12_count_136 (Or.inl rfl) hq
                  · refine pm_ite hq (fun hc20 hq => ?_) (fun hc20 hq => ?_)
                    · refine fr_tabV (tg := 137) (off := 131) (v := 9) (pc := 6) dX12_count_6 hc20 (by decide) rfl rfl ?_
                      refine fr_aload_n (pc := 137) dX12_count_137 rfl rfl ?_
                      refine fr_inVI (a := 142) (as := []) (rest := []) (ls' := [(2, 142), (9, 0), (9, 0)]) (c1 := 0) (c2 := 0) (pc := 138) dX12_count_138 pl_12_409 rfl ⟨Nat.le_of_ble_eq_true rfl, Nat.le_of_ble_eq_true rfl⟩ rfl rfl rfl s0_142 (Nat.le_of_ble_eq_true rfl) (by omega) rfl rfl (pm_zc _) (hq sc _ (by omega)) (fun r22 M21 hq => ?_)
                      exact fr_iret (pc := 141) dX12_count_141 (Or.inl rfl) hq
                    · refine fr_tableO (tg := 142) (pc := 6) dX12_count_6 (by omega) rfl ?_
                      refine fr_iconst (pc := 142) dX12_count_142 (by decide) ?_
                      exact fr_iret (pc := 143) dX12_count_143 (Or.inl rfl) hq
theorem k12_bits_r {a1 : Int} {M : pm_M} {K : Int → pm_M → Prop} (hq : k12_bits_4 0 a1 M K) : k12_bits a1 M K := by
  intro sc d hd
  refine fr_iconst (pc := 0) dX12_bits_0 (by decide) ?_
  refine fr_istore_n (ls2 := [(0, a1), (0, 0), (9, 0)]) (pc := 1) dX12_bits_1 rfl (Nat.le_of_ble_eq_true rfl) rfl ?_
  refine fr_iload_n (pc := 2) dX12_bits_2 rfl rfl ?_
  refine fr_istore_n (ls2 := [(0, a1), (0, 0), (0, a1)]) (pc := 3) dX12_bits_3 rfl (Nat.le_of_ble_eq_true rfl) rfl ?_
  exact hq sc d hd (0, a1) pm_t0
theorem k12_bits_4_r {l1 l2 : Int} {M : pm_M} {K : Int → pm_M → Prop} (hq : (if l2 = 0 then K l1 M else k12_bits_4 (w32 (l1 + 1)) (pm_iand l2 (w32 (l2 - 1))) M K)) : k12_bits_4 l1 l2 M K := by
  intro sc d hd z0 hz0
  refine fr_iload_n (pc := 4) dX12_bits_4 rfl rfl ?_
  refine fr_ifc_eq (tg := 20) (pc := 5) dX12_bits_5 rfl hq (fun hc1 hq => ?_) (fun hc1 hq => ?_)
  · refine fr_iload_n (pc := 20) dX12_bits_20 rfl rfl ?_
    exact fr_iret (pc := 21) dX12_bits_21 (Or.inl rfl) hq
  · refine fr_iinc (z := w32 (l1 + 1)) (ls2 := [z0, (0, w32 (l1 + 1)), (0, l2)]) (pc := 8) dX12_bits_8 (Nat.le_of_ble_eq_true rfl) rfl rfl (pm_st1z hz0 rfl rfl) ?_
    refine fr_iload_n (pc := 11) dX12_bits_11 rfl rfl ?_
    refine fr_iload_n (pc := 12) dX12_bits_12 rfl rfl ?_
    refine fr_iconst (pc := 13) dX12_bits_13 (by decide) ?_
    refine fr_isub (z := w32 (l2 - 1)) (pc := 14) dX12_bits_14 rfl ?_
    refine fr_iand (z := pm_iand l2 (w32 (l2 - 1))) (pc := 15) dX12_bits_15 rfl ?_
    refine fr_istore_n (ls2 := [z0, (0, w32 (l1 + 1)), (0, pm_iand l2 (w32 (l2 - 1)))]) (pc := 16) dX12_bits_16 rfl (Nat.le_of_ble_eq_true rfl) rfl ?_
    refine fr_goto (tg := 4) (pc := 17) dX12_bits_17 rfl ?_
    exact hq sc d hd z0 hz0
theorem k12_allChanges_r {M : pm_M} {K : Int → pm_M → Prop} (hq : k12_allChanges_4 0 0 M K) : k12_allChanges M K := by
  intro sc d hd
  refine fr_iconst (pc := 0) dX12_allChanges_0 (by decide) ?_
  refine fr_istore_n (ls2 := [(2, 142), (0, 0), (9, 0)]) (pc := 1) dX12_allChanges_1 rfl (Nat.le_of_ble_eq_true rfl) rfl ?_
  refine fr_iconst (pc := 2) dX12_allChanges_2 (by decide) ?_
  refine fr_istore_n (ls2 := [(2, 142), (0, 0), (0, 0)]) (pc := 3) dX12_allChanges_3 rfl (Nat.le_of_ble_eq_true rfl) rfl ?_
  exact hq sc d hd
theorem k12_allChanges_4_r {l1 l2 : Int} {M : pm_M} {K : Int → pm_M → Prop} (hq : (if l2 < gI M 144 0 then k12_changesOf l2 M (fun r3 M2 => k12_allChanges_4 (w32 (l1 + r3)) (w32 (l2 + 1)) M2 K) else K l1 M)) : k12_allChanges_4 l1 l2 M K := by
  intro sc d hd
  refine fr_iload_n (pc := 4) dX12_allChanges_4 rfl rfl ?_
  refine fr_aload_n (pc := 5) dX12_allChanges_5 rfl rfl ?_
  refine fr_getr (a := 142) (pc := 6) dX12_allChanges_6 rfl pf_12_13 s0_142 rfl rf_142_9 ?_
  refine fr_iconst (pc := 9) dX12_allChanges_9 (by decide) ?_
  refine fr_iaload (a := 144) (v := gI M 144 0) (pc := 10) dX12_allChanges_10 rfl s0_144 (by decide) rfl ?_
  refine fr_icm_ge (tg := 28) (pc := 11) dX12_allChanges_11 rfl hq (fun hc1 hq => ?_) (fun hc1 hq => ?_)
  · refine fr_iload_n (pc := 14) dX12_allChanges_14 rfl rfl ?_
    refine fr_aload_n (pc := 15) dX12_allChanges_15 rfl rfl ?_
    refine fr_iload_n (pc := 16) dX12_allChanges_16 rfl rfl ?_
    refine fr_inVI (a := 142) (as := [(0, l2)]) (rest := [(0, l1)]) (ls' := [(2, 142), (0, l2), (9, 0)]) (c1 := 0) (c2 := 0) (pc := 17) dX12_allChanges_17 pl_12_361 rfl ⟨Nat.le_of_ble_eq_true rfl, Nat.le_of_ble_eq_true rfl⟩ rfl rfl rfl s0_142 (Nat.le_of_ble_eq_true rfl) (by omega) rfl rfl (pm_zc _) (hq sc _ (by omega)) (fun r3 M2 hq => ?_)
    refine fr_iadd (z := w32 (l1 + r3)) (pc := 20) dX12_allChanges_20 rfl ?_
    refine fr_istore_n (ls2 := [(2, 142), (0, w32 (l1 + r3)), (0, l2)]) (pc := 21) dX12_allChanges_21 rfl (Nat.le_of_ble_eq_true rfl) rfl ?_
    refine fr_iinc (z := w32 (l2 + 1)) (ls2 := [(2, 142), (0, w32 (l1 + r3)), (0, w32 (l2 + 1))]) (pc := 22) dX12_allChanges_22 (Nat.le_of_ble_eq_true rfl) rfl rfl rfl ?_
    refine fr_goto (tg := 4) (pc := 25) dX12_allChanges_25 rfl ?_
    exact hq sc d hd
  · refine fr_iload_n (pc := 28) dX12_allChanges_28 rfl rfl ?_
    exact fr_iret (pc := 29) dX12_allChanges_29 (Or.inl rfl) hq

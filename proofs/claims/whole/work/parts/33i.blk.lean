-- needs 30 31 32
theorem k12_isAhead_r {a1 a2 a3 : Int} {M : pm_M} {K : Int → pm_M → Prop} (hq : k12_scores a1 a2 M (fun M1 => k12_scores a1 a3 M1 (fun M3 => (if w32 ((gI M1 142 42) * (gI M3 142 43)) ≤ w32 ((gI M3 142 42) * (gI M1 142 43)) then K 0 M3 else K 1 M3)))) : k12_isAhead a1 a2 a3 M K := by
  intro sc d hd
  refine fr_aload_n (pc := 0) dX12_isAhead_0 rfl rfl ?_
  refine fr_iload_n (pc := 1) dX12_isAhead_1 rfl rfl ?_
  refine fr_iload_n (pc := 2) dX12_isAhead_2 rfl rfl ?_
  refine fr_inVV (a := 142) (as := [(0, a1), (0, a2)]) (rest := []) (ls' := [(2, 142), (0, a1), (0, a2), (9, 0), (9, 0), (9, 0), (9, 0), (9, 0)]) (c1 := 0) (c2 := 0) (pc := 3) dX12_isAhead_3 pl_12_335 rfl ⟨Nat.le_of_ble_eq_true rfl, Nat.le_of_ble_eq_true rfl⟩ rfl rfl rfl s0_142 (Nat.le_of_ble_eq_true rfl) (by omega) rfl rfl (pm_zc _) (hq sc _ (by omega)) (fun M1 hq => ?_)
  refine fr_aload_n (pc := 6) dX12_isAhead_6 rfl rfl ?_
  refine fr_getf (a := 142) (i := 42) (v := gI M1 142 42) (t := 0) (pc := 7) dX12_isAhead_7 rfl pf_12_329 rfl s0_142 rfl rfl ?_
  refine fr_istore (ls2 := [(2, 142), (0, a1), (0, a2), (0, a3), (0, gI M1 142 42), (9, 0)]) (pc := 10) dX12_isAhead_10 rfl (Nat.le_of_ble_eq_true rfl) rfl ?_
  refine fr_aload_n (pc := 12) dX12_isAhead_12 rfl rfl ?_
  refine fr_getf (a := 142) (i := 43) (v := gI M1 142 43) (t := 0) (pc := 13) dX12_isAhead_13 rfl pf_12_332 rfl s0_142 rfl rfl ?_
  refine fr_istore (ls2 := [(2, 142), (0, a1), (0, a2), (0, a3), (0, gI M1 142 42), (0, gI M1 142 43)]) (pc := 16) dX12_isAhead_16 rfl (Nat.le_of_ble_eq_true rfl) rfl ?_
  refine fr_aload_n (pc := 18) dX12_isAhead_18 rfl rfl ?_
  refine fr_iload_n (pc := 19) dX12_isAhead_19 rfl rfl ?_
  refine fr_iload_n (pc := 20) dX12_isAhead_20 rfl rfl ?_
  refine fr_inVV (a := 142) (as := [(0, a1), (0, a3)]) (rest := []) (ls' := [(2, 142), (0, a1), (0, a3), (9, 0), (9, 0), (9, 0), (9, 0), (9, 0)]) (c1 := 0) (c2 := 0) (pc := 21) dX12_isAhead_21 pl_12_335 rfl ⟨Nat.le_of_ble_eq_true rfl, Nat.le_of_ble_eq_true rfl⟩ rfl rfl rfl s0_142 (Nat.le_of_ble_eq_true rfl) (by omega) rfl rfl (pm_zc _) (hq sc _ (by omega)) (fun M3 hq => ?_)
  refine fr_iload (pc := 24) dX12_isAhead_24 rfl rfl ?_
  refine fr_aload_n (pc := 26) dX12_isAhead_26 rfl rfl ?_
  refine fr_getf (a := 142) (i := 43) (v := gI M3 142 43) (t := 0) (pc := 27) dX12_isAhead_27 rfl pf_12_332 rfl s0_142 rfl rfl ?_
  refine fr_imul (z := w32 ((gI M1 142 42) * (gI M3 142 43))) (pc := 30) dX12_isAhead_30 rfl ?_
  refine fr_aload_n (pc := 31) dX12_isAhead_31 rfl rfl ?_
  refine fr_getf (a := 142) (i := 42) (v := gI M3 142 42) (t := 0) (pc := 32) dX12_isAhead_32 rfl pf_12_329 rfl s0_142 rfl rfl ?_
  refine fr_iload (pc := 35) dX12_isAhead_35 rfl rfl ?_
  refine fr_imul (z := w32 ((gI M3 142 42) * (gI M1 142 43))) (pc := 37) dX12_isAhead_37 rfl ?_
  refine fr_icm_le (tg := 45) (pc := 38) dX12_isAhead_38 rfl hq (fun hc5 hq => ?_) (fun hc5 hq => ?_)
  · refine fr_iconst (pc := 45) dX12_isAhead_45 (by decide) ?_
    exact fr_iret (pc := 46) dX12_isAhead_46 (Or.inr (Or.inl ⟨rfl, Or.inl rfl⟩)) hq
  · refine fr_iconst (pc := 41) dX12_isAhead_41 (by decide) ?_
    refine fr_goto (tg := 46) (pc := 42) dX12_isAhead_42 rfl ?_
    exact fr_iret (pc := 46) dX12_isAhead_46 (Or.inr (Or.inl ⟨rfl, Or.inr rfl⟩)) hq
theorem k12_changes_r {a1 : Int} {M : pm_M} {K : Int → pm_M → Prop} (hq : (if a1 < 0 then K (-1) (upI M 142 0 0) else (if a1 ≤ w32 ((gI M 144 0) - 1) then k12_changesOf a1 (upI M 142 0 0) (fun r4 M3 => K r4 M3) else K (-1) (upI M 142 0 0)))) : k12_changes a1 M K := by
  intro sc d hd
  refine fr_aload_n (pc := 0) dX12_changes_0 rfl rfl ?_
  refine fr_iconst (pc := 1) dX12_changes_1 (by decide) ?_
  refine fr_put (a := 142) (i := 0) (pc := 2) dX12_changes_2 rfl pf_12_121 rfl s0_142 rfl rfl nf_142_0 rfl ?_
  refine fr_aload_n (pc := 5) dX12_changes_5 rfl rfl ?_
  refine fr_iload_n (pc := 6) dX12_changes_6 rfl rfl ?_
  refine fr_inVI (a := 142) (as := [(0, a1)]) (rest := []) (ls' := [(2, 142), (0, a1)]) (c1 := 0) (c2 := 0) (pc := 7) dX12_changes_7 pl_12_305 rfl ⟨Nat.le_of_ble_eq_true rfl, Nat.le_of_ble_eq_true rfl⟩ rfl rfl rfl s0_142 (Nat.le_of_ble_eq_true rfl) (by omega) rfl rfl (pm_zc _) ?_ (fun y M' h => h)
  refine fr_iload_n (pc := 0) dX12_isNode_0 rfl rfl ?_
  refine fr_iconst (pc := 1) dX12_isNode_1 (by decide) ?_
  refine fr_aload_n (pc := 2) dX12_isNode_2 rfl rfl ?_
  refine fr_getr (a := 142) (pc := 3) dX12_isNode_3 rfl pf_12_13 s0_142 rfl rf_142_9 ?_
  refine fr_iconst (pc := 6) dX12_isNode_6 (by decide) ?_
  refine fr_iaload (a := 144) (v := gI M 144 0) (pc := 7) dX12_isNode_7 rfl s0_144 (by decide) (gI_ne _ _ _ _ (by decide)) ?_
  refine fr_iconst (pc := 8) dX12_isNode_8 (by decide) ?_
  refine fr_isub (z := w32 ((gI M 144 0) - 1)) (pc := 9) dX12_isNode_9 rfl ?_
  refine fr_inSI (as := [(0, a1), (0, 0), (0, w32 ((gI M 144 0) - 1))]) (rest := []) (ls' := [(0, a1), (0, 0), (0, w32 ((gI M 144 0) - 1))]) (c1 := 0) (c2 := 0) (pc := 10) dX12_isNode_10 pl_12_147 rfl ⟨Nat.le_of_ble_eq_true rfl, Nat.le_of_ble_eq_true rfl⟩ rfl rfl  (by omega) rfl rfl (pm_zc _) ?_ (fun y M' h => h)
  refine fr_iload_n (pc := 0) dX12_within_0 rfl rfl ?_
  refine fr_iload_n (pc := 1) dX12_within_1 rfl rfl ?_
  refine fr_icm_lt (tg := 14) (pc := 2) dX12_within_2 rfl hq (fun hc1 hq => ?_) (fun hc1 hq => ?_)
  · refine fr_iconst (pc := 14) dX12_within_14 (by decide) ?_
    refine fr_iret (pc := 15) dX12_within_15 (Or.inr (Or.inl ⟨rfl, Or.inl rfl⟩)) ?_
    refine fr_iret (pc := 13) dX12_isNode_13 (Or.inr (Or.inl ⟨rfl, Or.inl rfl⟩)) ?_
    refine fr_ifcT (tg := 21) (pc := 10) dX12_changes_10 rfl rfl ?_
    refine fr_iconst (pc := 21) dX12_changes_21 (by decide) ?_
    exact fr_iret (pc := 22) dX12_changes_22 (Or.inl rfl) hq
  · refine fr_iload_n (pc := 5) dX12_within_5 rfl rfl ?_
    refine fr_iload_n (pc := 6) dX12_within_6 rfl rfl ?_
    refine fr_icm_gt (tg := 14) (pc := 7) dX12_within_7 rfl hq (fun hc2 hq => ?_) (fun hc2 hq => ?_)
    · refine fr_iconst (pc := 10) dX12_within_10 (by decide) ?_
      refine fr_goto (tg := 15) (pc := 11) dX12_within_11 rfl ?_
      refine fr_iret (pc := 15) dX12_within_15 (Or.inr (Or.inl ⟨rfl, Or.inr rfl⟩)) ?_
      refine fr_iret (pc := 13) dX12_isNode_13 (Or.inr (Or.inl ⟨rfl, Or.inr rfl⟩)) ?_
      refine fr_ifcF (tg := 21) (pc := 10) dX12_changes_10 rfl rfl ?_
      refine fr_aload_n (pc := 13) dX12_changes_13 rfl rfl ?_
      refine fr_iload_n (pc := 14) dX12_changes_14 rfl rfl ?_
      refine fr_inVI (a := 142) (as := [(0, a1)]) (rest := []) (ls' := [(2, 142), (0, a1), (9, 0)]) (c1 := 0) (c2 := 0) (pc := 15) dX12_changes_15 pl_12_361 rfl ⟨Nat.le_of_ble_eq_true rfl, Nat.le_of_ble_eq_true rfl⟩ rfl rfl rfl s0_142 (Nat.le_of_ble_eq_true rfl) (by omega) rfl rfl (pm_zc _) (hq sc _ (by omega)) (fun r4 M3 hq => ?_)
      refine fr_goto (tg := 22) (pc := 18) dX12_changes_18 rfl ?_
      exact fr_iret (pc := 22) dX12_changes_22 (Or.inl rfl) hq
    · refine fr_iconst (pc := 14) dX12_within_14 (by decide) ?_
      refine fr_iret (pc := 15) dX12_within_15 (Or.inr (Or.inl ⟨rfl, Or.inl rfl⟩)) ?_
      refine fr_iret (pc := 13) dX12_isNode_13 (Or.inr (Or.inl ⟨rfl, Or.inl rfl⟩)) ?_
      refine fr_ifcT (tg := 21) (pc := 10) dX12_changes_10 rfl rfl ?_
      refine fr_iconst (pc := 21) dX12_changes_21 (by decide) ?_
      exact fr_iret (pc := 22) dX12_changes_22 (Or.inl rfl) hq
theorem k12_changesOf_r {a1 : Int} {M : pm_M} {K : Int → pm_M → Prop} (hq : k12_changesOf_2 a1 0 M K) : k12_changesOf a1 M K := by
  intro sc d hd
  refine fr_iconst (pc := 0) dX12_changesOf_0 (by decide) ?_
  refine fr_istore_n (ls2 := [(2, 142), (0, a1), (0, 0)]) (pc := 1) dX12_changesOf_1 rfl (Nat.le_of_ble_eq_true rfl) rfl ?_
  exact hq sc d hd
theorem k12_changesOf_2_r {l1 l2 : Int} {M : pm_M} {K : Int → pm_M → Prop} (hq : k12_asks l1 l2 M (fun r2 M1 => (if r2 = 0 then K l2 M1 else k12_changesOf_2 l1 (w32 (l2 + 1)) M1 K))) : k12_changesOf_2 l1 l2 M K := by
  intro sc d hd
  refine fr_aload_n (pc := 2) dX12_changesOf_2 rfl rfl ?_
  refine fr_iload_n (pc := 3) dX12_changesOf_3 rfl rfl ?_
  refine fr_iload_n (pc := 4) dX12_changesOf_4 rfl rfl ?_
  refine fr_inVI (a := 142) (as := [(0, l1), (0, l2)]) (rest := []) (ls' := [(2, 142), (0, l1), (0, l2)]) (c1 := 0) (c2 := 0) (pc := 5) dX12_changesOf_5 pl_12_358 rfl ⟨Nat.le_of_ble_eq_true rfl, Nat.le_of_ble_eq_true rfl⟩ rfl rfl rfl s0_142 (Nat.le_of_ble_eq_true rfl) (by omega) rfl rfl (pm_zc _) (hq sc _ (by omega)) (fun r2 M1 hq => ?_)
  refine fr_ifc_eq (tg := 17) (pc := 8) dX12_changesOf_8 rfl hq (fun hc3 hq => ?_) (fun hc3 hq => ?_)
  · refine fr_iload_n (pc := 17) dX12_changesOf_17 rfl rfl ?_
    exact fr_iret (pc := 18) dX12_changesOf_18 (Or.inl rfl) hq
  · refine fr_iinc (z := w32 (l2 + 1)) (ls2 := [(2, 142), (0, l1), (0, w32 (l2 + 1))]) (pc := 11) dX12_changesOf_11 (Nat.le_of_ble_eq_true rfl) rfl rfl rfl ?_
    refine fr_goto (tg := 2) (pc := 14) dX12_changesOf_14 rfl ?_
    exact hq sc d hd
theorem k12_asks_r {a1 a2 : Int} {M : pm_M} {K : Int → pm_M → Prop} (hq : ((0 ≤ a1 ∧ a1 < 800) ∧ ((0 ≤ a1 ∧ a1 < 60) ∧ (if a2 < 0 then K 0 (upI (upI M 142 45 (gI M 146 a1)) 142 46 (gI M 153 a1)) else k12_isGone a1 (upI (upI M 142 45 (gI M 146 a1)) 142 46 (gI M 153 a1)) (fun r5 M4 => (if r5 = 0 then (if gI M4 145 a1 = 1 then (if a2 = 0 then (if a2 < 2 then K 1 (upI M4 142 46 (pm_ixor (gI M4 153 a1) 2)) else K 0 (upI M4 142 46 (pm_ixor (gI M4 153 a1) 2))) else (if a2 < 2 then K 1 (upI M4 142 46 (pm_ior (gI M4 153 a1) 1)) else K 0 (upI M4 142 46 (pm_ior (gI M4 153 a1) 1)))) else (if gI M4 145 a1 = 2 then (if a2 = 0 then (if a2 < 2 then K 1 (upI M4 142 46 (pm_ixor (gI M4 153 a1) 2)) else K 0 (upI M4 142 46 (pm_ixor (gI M4 153 a1) 2))) else (if a2 < 2 then K 1 (upI M4 142 46 (pm_ior (gI M4 153 a1) 1)) else K 0 (upI M4 142 46 (pm_ior (gI M4 153 a1) 1)))) else (if gI M4 145 a1 = 3 then (if a2 = 0 then K 1 (upI M4 142 46 (pm_ior (gI M4 153 a1) 1)) else K 0 (upI M4 142 46 (pm_ior (gI M4 153 a1) 1))) else (if gI M4 145 a1 = 4 then (if a2 = 0 then (if a2 < 2 then K 1 (upI M4 142 45 (w32 ((gI M4 146 a1) + 1))) else (if a2 = 2 then (if gI M4 146 a1 < (-1) then K 1 (upI M4 142 45 (w32 ((gI M4 146 a1) + 1))) else (if gI M4 146 a1 ≤ 1 then K 0 (upI M4 142 45 (w32 ((gI M4 146 a1) + 1))) else K 1 (upI M4 142 45 (w32 ((gI M4 146 a1) + 1))))) else K 0 (upI M4 142 45 (w32 ((gI M4 146 a1) + 1))))) else (if a2 = 1 then (if a2 < 2 then K 1 (upI M4 142 45 (w32 ((gI M4 146 a1) - 1))) else (if a2 = 2 then (if gI M4 146 a1 < (-1) then K 1 (upI M4 142 45 (w32 ((gI M4 146 a1) - 1))) else (if gI M4 146 a1 ≤ 1 then K 0 (upI M4 142 45 (w32 ((gI M4 146 a1) - 1))) else K 1 (upI M4 142 45 (w32 ((gI M4 146 a1) - 1))))) else K 0 (upI M4 142 45 (w32 ((gI M4 146 a1) - 1))))) else (if a2 < 2 then K 1 (upI M4 142 45 0) else (if a2 = 2 then (if gI M4 146 a1 < (-1) then K 1 (upI M4 142 45 0) else (if gI M4 146 a1 ≤ 1 then K 0 (upI M4 142 45 0) else K 1 (upI M4 142 45 0))) else K 0 (upI M4 142 45 0))))) else (if gI M4 145 a1 = 5 then k12_otherOf a2 0 8 (gI M4 142 22) (gI M4 146 a1) M4 (fun r34 M33 => (if r34 = (-1) then K 0 (upI M33 142 45 r34) else K 1 (upI M33 142 45 r34))) else (if gI M4 145 a1 = 6 then (if a2 = 0 then K 1 (upI M4 142 46 (pm_ior (gI M4 153 a1) 1)) else K 0 (upI M4 142 46 (pm_ior (gI M4 153 a1) 1))) else (if gI M4 145 a1 = 7 then k12_asksSides a1 a2 M4 (fun r40 M39 => ((r40 = 0 ∨ r40 = 1) ∧ K r40 M39)) else (if a2 = 0 then K 1 (upI M4 142 46 (pm_ior (gI M4 153 a1) 1)) else K 0 (upI M4 142 46 (pm_ior (gI M4 153 a1) 1)))))))))) else K 0 M4)))))) : k12_asks a1 a2 M K := by
  intro sc d hd
  refine fr_aload_n (pc := 0) dX12_asks_0 rfl rfl ?_
  refine fr_aload_n (pc := 1) dX12_asks_1 rfl rfl ?_
  refine fr_getr (a := 142) (pc := 2) dX12_asks_2 rfl pf_12_20 s0_142 rfl rf_142_11 ?_
  refine fr_iload_n (pc := 5) dX12_asks_5 rfl rfl ?_
  obtain ⟨hb1, hq⟩ := hq
  refine fr_iaload (a := 146) (v := gI M 146 a1) (pc := 6) dX12_asks_6 rfl s0_146 hb1 rfl ?_
  refine fr_put (a := 142) (i := 45) (pc := 7) dX12_asks_7 rfl pf_12_345 rfl s0_142 rfl rfl nf_142_45 rfl ?_
  refine fr_aload_n (pc := 10) dX12_asks_10 rfl rfl ?_
  refine fr_aload_n (pc := 11) dX12_asks_11 rfl rfl ?_
  refine fr_getr (a := 142) (pc := 12) dX12_asks_12 rfl pf_12_41 s0_142 rfl rf_142_23 ?_
  refine fr_iload_n (pc := 15) dX12_asks_15 rfl rfl ?_
  obtain ⟨hb2, hq⟩ := hq
  refine fr_iaload (a := 153) (v := gI M 153 a1) (pc := 16) dX12_asks_16 rfl s0_153 hb2 (gI_ne _ _ _ _ (by decide)) ?_
  refine fr_put (a := 142) (i := 46) (pc := 17) dX12_asks_17 rfl pf_12_348 rfl s0_142 rfl rfl nf_142_46 rfl ?_
  refine fr_iload_n (pc := 20) dX12_asks_20 rfl rfl ?_
  refine fr_ifc_lt (tg := 32) (pc := 21) dX12_asks_21 rfl hq (fun hc3 hq => ?_) (fun hc3 hq => ?_)
  · refine fr_iconst (pc := 32) dX12_asks_32 (by decide) ?_
    exact fr_iret (pc := 33) dX12_asks_33 (Or.inr (Or.inl ⟨rfl, Or.inl rfl⟩)) hq
  · refine fr_aload_n (pc := 24) dX12_asks_24 rfl rfl ?_
    refine fr_iload_n (pc := 25) dX12_asks_25 rfl rfl ?_
    refine fr_inVI (a := 142) (as := [(0, a1)]) (rest := []) (ls' := [(2, 142), (0, a1), (9, 0), (9, 0)]) (c1 := 0) (c2 := 0) (pc := 26) dX12_asks_26 pl_12_314 rfl ⟨Nat.le_of_ble_eq_true rfl, Nat.le_of_ble_eq_true rfl⟩ rfl rfl rfl s0_142 (Nat.le_of_ble_eq_true rfl) (by omega) rfl rfl (pm_zc _) (hq sc _ (by omega)) (fun r5 M4 hq => ?_)
    refine fr_ifc_eq (tg := 34) (pc := 29) dX12_asks_29 rfl hq (fun hc6 hq => ?_) (fun hc6 hq => ?_)
    · refine fr_aload_n (pc := 34) dX12_asks_34 rfl rfl ?_
      refine fr_getr (a := 142) (pc := 35) dX12_asks_35 rfl pf_12_17 s0_142 rfl rf_142_10 ?_
      refine fr_iload_n (pc := 38) dX12_asks_38 rfl rfl ?_
      refine fr_iaload (a := 145) (v := gI M4 145 a1) (pc := 39) dX12_asks_39 rfl s0_145 ⟨hb2.1, by omega⟩ rfl ?_
      refine pm_ite hq (fun hc7 hq => ?_) (fun hc7 hq => ?_)
      · refine fr_tabV (tg := 192) (off := 152) (v := 1) (pc := 40) dX12_asks_40 hc7 (by decide) rfl rfl ?_
        refine fr_aload_n (pc := 192) dX12_asks_192 rfl rfl ?_
        refine fr_iload_n (pc := 193) dX12_asks_193 rfl rfl ?_
        refine fr_ifc_ne (tg := 208) (pc := 194) dX12_asks_194 rfl hq (fun hc8 hq => ?_) (fun hc8 hq => ?_)
        · refine fr_aload_n (pc := 197) dX12_asks_197 rfl rfl ?_
          refine fr_getr (a := 142) (pc := 198) dX12_asks_198 rfl pf_12_41 s0_142 rfl rf_142_23 ?_
          refine fr_iload_n (pc := 201) dX12_asks_201 rfl rfl ?_
          refine fr_iaload (a := 153) (v := gI M4 153 a1) (pc := 202) dX12_asks_202 rfl s0_153 hb2 rfl ?_
          refine fr_iconst (pc := 203) dX12_asks_203 (by decide) ?_
          refine fr_ixor (z := pm_ixor (gI M4 153 a1) 2) (pc := 204) dX12_asks_204 rfl ?_
          refine fr_goto (tg := 216) (pc := 205) dX12_asks_205 rfl ?_
          refine fr_put (a := 142) (i := 46) (pc := 216) dX12_asks_216 rfl pf_12_348 rfl s0_142 rfl rfl nf_142_46 rfl ?_
          refine fr_iload_n (pc := 219) dX12_asks_219 rfl rfl ?_
          refine fr_iconst (pc := 220) dX12_asks_220 (by decide) ?_
          refine fr_icm_ge (tg := 228) (pc := 221) dX12_asks_221 rfl hq (fun hc9 hq => ?_) (fun hc9 hq => ?_)
          · refine fr_iconst (pc := 224) dX12_asks_224 (by decide) ?_
            refine fr_goto (tg := 229) (pc := 225) dX12_asks_225 rfl ?_
            exact fr_iret (pc := 229) dX12_asks_229 (Or.inr (Or.inl ⟨rfl, Or.inr rfl⟩)) hq
          · refine fr_iconst (pc := 228) dX12_asks_228 (by decide) ?_
            exact fr_iret (pc := 229) dX12_asks_229 (Or.inr (Or.inl ⟨rfl, Or.inl rfl⟩)) hq
        · refine fr_aload_n (pc := 208) dX12_asks_208 rfl rfl ?_
          refine fr_getr (a := 142) (pc := 209) dX12_asks_209 rfl pf_12_41 s0_142 rfl rf_142_23 ?_
          refine fr_iload_n (pc := 212) dX12_asks_212 rfl rfl ?_
          refine fr_iaload (a := 153) (v := gI M4 153 a1) (pc := 213) dX12_asks_213 rfl s0_153 hb2 rfl ?_
          refine fr_iconst (pc := 214) dX12_asks_214 (by decide) ?_
          refine fr_ior (z := pm_ior (gI M4 153 a1) 1) (pc := 215) dX12_asks_215 rfl ?_
          refine fr_put (a := 142) (i := 46) (pc := 216) dX12_asks_216 rfl pf_12_348 rfl s0_142 rfl rfl nf_142_46 rfl ?_
          refine fr_iload_n (pc := 219) dX12_asks_219 rfl rfl ?_
          refine fr_iconst (pc := 220) dX12_asks_220 (by decide) ?_
          refine fr_icm_ge (tg := 228) (pc := 221) dX12_asks_221 rfl hq (fun hc10 hq => ?_) (fun hc10 hq => ?_)
          · refine fr_iconst (pc := 224) dX12_asks_224 (by decide) ?_
            refine fr_goto (tg := 229) (pc := 225) dX12_asks_225 rfl ?_
            exact fr_iret (pc := 229) dX12_asks_229 (Or.inr (Or.inl ⟨rfl, Or.inr rfl⟩)) hq
          · refine fr_iconst (pc := 228) dX12_asks_228 (by decide) ?_
            exact fr_iret (pc := 229) dX12_asks_229 (Or.inr (Or.inl ⟨rfl, Or.inl rfl⟩)) hq
      · refine pm_ite hq (fun hc11 hq => ?_) (fun hc11 hq => ?_)
        · refine fr_tabV (tg := 192) (off := 152) (v := 2) (pc := 40) dX12_asks_40 hc11 (by decide) rfl rfl ?_
          refine fr_aload_n (pc := 192) dX12_asks_192 rfl rfl ?_
          refine fr_iload_n (pc := 193) dX12_asks_193 rfl rfl ?_
          refine fr_ifc_ne (tg := 208) (pc := 194) dX12_asks_194 rfl hq (fun hc12 hq => ?_) (fun hc12 hq => ?_)
          · refine fr_aload_n (pc := 197) dX12_asks_197 rfl rfl ?_
            refine fr_getr (a := 142) (pc := 198) dX12_asks_198 rfl pf_12_41 s0_142 rfl rf_142_23 ?_
            refine fr_iload_n (pc := 201) dX12_asks_201 rfl rfl ?_
            refine fr_iaload (a := 153) (v := gI M4 153 a1) (pc := 202) dX12_asks_202 rfl s0_153 hb2 rfl ?_
            refine fr_iconst (pc := 203) dX12_asks_203 (by decide) ?_
            refine fr_ixor (z := pm_ixor (gI M4 153 a1) 2) (pc := 204) dX12_asks_204 rfl ?_
            refine fr_goto (tg := 216) (pc := 205) dX12_asks_205 rfl ?_
            refine fr_put (a := 142) (i := 46) (pc := 216) dX12_asks_216 rfl pf_12_348 rfl s0_142 rfl rfl nf_142_46 rfl ?_
            refine fr_iload_n (pc := 219) dX12_asks_219 rfl rfl ?_
            refine fr_iconst (pc := 220) dX12_asks_220 (by decide) ?_
            refine fr_icm_ge (tg := 228) (pc := 221) dX12_asks_221 rfl hq (fun hc13 hq => ?_) (fun hc13 hq => ?_)
            · refine fr_iconst (pc := 224) dX12_asks_224 (by decide) ?_
              refine fr_goto (tg := 229) (pc := 225) dX12_asks_225 rfl ?_
              exact fr_iret (pc := 229) dX12_asks_229 (Or.inr (Or.inl ⟨rfl, Or.inr rfl⟩)) hq
            · refine fr_iconst (pc := 228) dX12_asks_228 (by decide) ?_
              exact fr_iret (pc := 229) dX12_asks_229 (Or.inr (Or.inl ⟨rfl, Or.inl rfl⟩)) hq
          · refine fr_aload_n (pc := 208) dX12_asks_208 rfl rfl ?_
            refine fr_getr (a := 142) (pc := 209) dX12_asks_209 rfl pf_12_41 s0_142 rfl rf_142_23 ?_
            refine fr_iload_n (pc := 212) dX12_asks_212 rfl rfl ?_
            refine fr_iaload (a := 153) (v := gI M4 153 a1) (pc := 213) dX12_asks_213 rfl s0_153 hb2 rfl ?_
            refine fr_iconst (pc := 214) dX12_asks_214 (by decide) ?_
            refine fr_ior (z := pm_ior (gI M4 153 a1) 1) (pc := 215) dX12_asks_215 rfl ?_
            refine fr_put (a := 142) (i := 46) (pc := 216) dX12_asks_216 rfl pf_12_348 rfl s0_142 rfl rfl nf_142_46 rfl ?_
            refine fr_iload_n (pc := 219) dX12_asks_219 rfl rfl ?_
            refine fr_iconst (pc := 220) dX12_asks_220 (by decide) ?_
            refine fr_icm_ge (tg := 228) (pc := 221) dX12_asks_221 rfl hq (fun hc14 hq => ?_) (fun hc14 hq => ?_)
            · refine fr_iconst (pc := 224) dX12_asks_224 (by decide) ?_
              refine fr_goto (tg := 229) (pc := 225) dX12_asks_225 rfl ?_
              exact fr_iret (pc := 229) dX12_asks_229 (Or.inr (Or.inl ⟨rfl, Or.inr rfl⟩)) hq
            · refine fr_iconst (pc := 228) dX12_asks_228 (by decide) ?_
              exact fr_iret (pc := 229) dX12_asks_229 (Or.inr (Or.inl ⟨rfl, Or.inl rfl⟩)) hq
        · refine pm_ite hq (fun hc15 hq => ?_) (fun hc15 hq => ?_)
          · refine fr_tabV (tg := 230) (off := 190) (v := 3) (pc := 40) dX12_asks_40 hc15 (by decide) rfl rfl ?_
            refine fr_aload_n (pc := 230) dX12_asks_230 rfl rfl ?_
            refine fr_aload_n (pc := 231) dX12_asks_231 rfl rfl ?_
            refine fr_getr (a := 142) (pc := 232) dX12_asks_232 rfl pf_12_41 s0_142 rfl rf_142_23 ?_
            refine fr_iload_n (pc := 235) dX12_asks_235 rfl rfl ?_
            refine fr_iaload (a := 153) (v := gI M4 153 a1) (pc := 236) dX12_asks_236 rfl s0_153 hb2 rfl ?_
            refine fr_iconst (pc := 237) dX12_asks_237 (by decide) ?_
            refine fr_ior (z := pm_ior (gI M4 153 a1) 1) (pc := 238) dX12_asks_238 rfl ?_
            refine fr_put (a := 142) (i := 46) (pc := 239) dX12_asks_239 rfl pf_12_348 rfl s0_142 rfl rfl nf_142_46 rfl ?_
            refine fr_iload_n (pc := 242) dX12_asks_242 rfl rfl ?_
            refine fr_ifc_ne (tg := 250) (pc := 243) dX12_asks_243 rfl hq (fun hc16 hq => ?_) (fun hc16 hq => ?_)
            · refine fr_iconst (pc := 246) dX12_asks_246 (by decide) ?_
              refine fr_goto (tg := 251) (pc := 247) dX12_asks_247 rfl ?_
              exact fr_iret (pc := 251) dX12_asks_251 (Or.inr (Or.inl ⟨rfl, Or.inr rfl⟩)) hq
            · refine fr_iconst (pc := 250) dX12_asks_250 (by decide) ?_
              exact fr_iret (pc := 251) dX12_asks_251 (Or.inr (Or.inl ⟨rfl, Or.inl rfl⟩)) hq
          · refine pm_ite hq (fun hc17 hq => ?_) (fun hc17 hq => ?_)
            · refine fr_tabV (tg := 84) (off := 44) (v := 4) (pc := 40) dX12_asks_40 hc17 (by decide) rfl rfl ?_
              refine fr_aload_n (pc := 84) dX12_asks_84 rfl rfl ?_
              refine fr_iload_n (pc := 85) dX12_asks_85 rfl rfl ?_
              refine fr_ifc_ne (tg := 100) (pc := 86) dX12_asks_86 rfl hq (fun hc18 hq => ?_) (fun hc18 hq => ?_)
              · refine fr_aload_n (pc := 89) dX12_asks_89 rfl rfl ?_
                refine fr_getr (a := 142) (pc := 90) dX12_asks_90 rfl pf_12_20 s0_142 rfl rf_142_11 ?_
                refine fr_iload_n (pc := 93) dX12_asks_93 rfl rfl ?_
                refine fr_iaload (a := 146) (v := gI M4 146 a1) (pc := 94) dX12_asks_94 rfl s0_146 ⟨hb2.1, by omega⟩ rfl ?_
                refine fr_iconst (pc := 95) dX12_asks_95 (by decide) ?_
                refine fr_iadd (z := w32 ((gI M4 146 a1) + 1)) (pc := 96) dX12_asks_96 rfl ?_
                refine fr_goto (tg := 117) (pc := 97) dX12_asks_97 rfl ?_
                refine fr_put (a := 142) (i := 45) (pc := 117) dX12_asks_117 rfl pf_12_345 rfl s0_142 rfl rfl nf_142_45 rfl ?_
                refine fr_iload_n (pc := 120) dX12_asks_120 rfl rfl ?_
                refine fr_iconst (pc := 121) dX12_asks_121 (by decide) ?_
                refine fr_icm_lt (tg := 144) (pc := 122) dX12_asks_122 rfl hq (fun hc19 hq => ?_) (fun hc19 hq => ?_)
                · refine fr_iconst (pc := 144) dX12_asks_144 (by decide) ?_
                  refine fr_goto (tg := 149) (pc := 145) dX12_asks_145 rfl ?_
                  exact fr_iret (pc := 149) dX12_asks_149 (Or.inr (Or.inl ⟨rfl, Or.inr rfl⟩)) hq
                · refine fr_iload_n (pc := 125) dX12_asks_125 rfl rfl ?_
                  refine fr_iconst (pc := 126) dX12_asks_126 (by decide) ?_
                  refine fr_icm_ne (tg := 148) (pc := 127) dX12_asks_127 rfl hq (fun hc20 hq => ?_) (fun hc20 hq => ?_)
                  · refine fr_aload_n (pc := 130) dX12_asks_130 rfl rfl ?_
                    refine fr_getr (a := 142) (pc := 131) dX12_asks_131 rfl pf_12_20 s0_142 rfl rf_142_11 ?_
                    refine fr_iload_n (pc := 134) dX12_asks_134 rfl rfl ?_
                    refine fr_iaload (a := 146) (v := gI M4 146 a1) (pc := 135) dX12_asks_135 rfl s0_146 ⟨hb2.1, by omega⟩ (gI_ne _ _ _ _ (by decide)) ?_
                    refine fr_iconst (pc := 136) dX12_asks_136 (by decide) ?_
                    refine fr_iconst (pc := 137) dX12_asks_137 (by decide) ?_
                    refine fr_inSI (as := [(0, gI M4 146 a1), (0, (-1)), (0, 1)]) (rest := []) (ls' := [(0, gI M4 146 a1), (0, (-1)), (0, 1)]) (c1 := 0) (c2 := 0) (pc := 138) dX12_asks_138 pl_12_147 rfl ⟨Nat.le_of_ble_eq_true rfl, Nat.le_of_ble_eq_true rfl⟩ rfl rfl  (by omega) rfl rfl (pm_zc _) ?_ (fun y M' h => h)
                    refine fr_iload_n (pc := 0) dX12_within_0 rfl rfl ?_
                    refine fr_iload_n (pc := 1) dX12_within_1 rfl rfl ?_
                    refine fr_icm_lt (tg := 14) (pc := 2) dX12_within_2 rfl hq (fun hc21 hq => ?_) (fun hc21 hq => ?_)
                    · refine fr_iconst (pc := 14) dX12_within_14 (by decide) ?_
                      refine fr_iret (pc := 15) dX12_within_15 (Or.inr (Or.inl ⟨rfl, Or.inl rfl⟩)) ?_
                      refine fr_ifcF (tg := 148) (pc := 141) dX12_asks_141 rfl rfl ?_
                      refine fr_iconst (pc := 144) dX12_asks_144 (by decide) ?_
                      refine fr_goto (tg := 149) (pc := 145) dX12_asks_145 rfl ?_
                      exact fr_iret (pc := 149) dX12_asks_149 (Or.inr (Or.inl ⟨rfl, Or.inr rfl⟩)) hq
                    · refine fr_iload_n (pc := 5) dX12_within_5 rfl rfl ?_
                      refine fr_iload_n (pc := 6) dX12_within_6 rfl rfl ?_
                      refine fr_icm_gt (tg := 14) (pc := 7) dX12_within_7 rfl hq (fun hc22 hq => ?_) (fun hc22 hq => ?_)
                      · refine fr_iconst (pc := 10) dX12_within_10 (by decide) ?_
                        refine fr_goto (tg := 15) (pc := 11) dX12_within_11 rfl ?_
                        refine fr_iret (pc := 15) dX12_within_15 (Or.inr (Or.inl ⟨rfl, Or.inr rfl⟩)) ?_
                        refine fr_ifcT (tg := 148) (pc := 141) dX12_asks_141 rfl rfl ?_
                        refine fr_iconst (pc := 148) dX12_asks_148 (by decide) ?_
                        exact fr_iret (pc := 149) dX12_asks_149 (Or.inr (Or.inl ⟨rfl, Or.inl rfl⟩)) hq
                      · refine fr_iconst (pc := 14) dX12_within_14 (by decide) ?_
                        refine fr_iret (pc := 15) dX12_within_15 (Or.inr (Or.inl ⟨rfl, Or.inl rfl⟩)) ?_
                        refine fr_ifcF (tg := 148) (pc := 141) dX12_asks_141 rfl rfl ?_
                        refine fr_iconst (pc := 144) dX12_asks_144 (by decide) ?_
                        refine fr_goto (tg := 149) (pc := 145) dX12_asks_145 rfl ?_
                        exact fr_iret (pc := 149) dX12_asks_149 (Or.inr (Or.inl ⟨rfl, Or.inr rfl⟩)) hq
                  · refine fr_iconst (pc := 148) dX12_asks_148 (by decide) ?_
                    exact fr_iret (pc := 149) dX12_asks_149 (Or.inr (Or.inl ⟨rfl, Or.inl rfl⟩)) hq
              · refine fr_iload_n (pc := 100) dX12_asks_100 rfl rfl ?_
                refine fr_iconst (pc := 101) dX12_asks_101 (by decide) ?_
                refine fr_icm_ne (tg := 116) (pc := 102) dX12_asks_102 rfl hq (fun hc23 hq => ?_) (fun hc23 hq => ?_)
                · refine fr_aload_n (pc := 105) dX12_asks_105 rfl rfl ?_
                  refine fr_getr (a := 142) (pc := 106) dX12_asks_106 rfl pf_12_20 s0_142 rfl rf_142_11 ?_
                  refine fr_iload_n (pc := 109) dX12_asks_109 rfl rfl ?_
                  refine fr_iaload (a := 146) (v := gI M4 146 a1) (pc := 110) dX12_asks_110 rfl s0_146 ⟨hb2.1, by omega⟩ rfl ?_
                  refine fr_iconst (pc := 111) dX12_asks_111 (by decide) ?_
                  refine fr_isub (z := w32 ((gI M4 146 a1) - 1)) (pc := 112) dX12_asks_112 rfl ?_
                  refine fr_goto (tg := 117) (pc := 113) dX12_asks_113 rfl ?_
                  refine fr_put (a := 142) (i := 45) (pc := 117) dX12_asks_117 rfl pf_12_345 rfl s0_142 rfl rfl nf_142_45 rfl ?_
                  refine fr_iload_n (pc := 120) dX12_asks_120 rfl rfl ?_
                  refine fr_iconst (pc := 121) dX12_asks_121 (by decide) ?_
                  refine fr_icm_lt (tg := 144) (pc := 122) dX12_asks_122 rfl hq (fun hc24 hq => ?_) (fun hc24 hq => ?_)
                  · refine fr_iconst (pc := 144) dX12_asks_144 (by decide) ?_
                    refine fr_goto (tg := 149) (pc := 145) dX12_asks_145 rfl ?_
                    exact fr_iret (pc := 149) dX12_asks_149 (Or.inr (Or.inl ⟨rfl, Or.inr rfl⟩)) hq
                  · refine fr_iload_n (pc := 125) dX12_asks_125 rfl rfl ?_
                    refine fr_iconst (pc := 126) dX12_asks_126 (by decide) ?_
                    refine fr_icm_ne (tg := 148) (pc := 127) dX12_asks_127 rfl hq (fun hc25 hq => ?_) (fun hc25 hq => ?_)
                    · refine fr_aload_n (pc := 130) dX12_asks_130 rfl rfl ?_
                      refine fr_getr (a := 142) (pc := 131) dX12_asks_131 rfl pf_12_20 s0_142 rfl rf_142_11 ?_
                      refine fr_iload_n (pc := 134) dX12_asks_134 rfl rfl ?_
                      refine fr_iaload (a := 146) (v := gI M4 146 a1) (pc := 135) dX12_asks_135 rfl s0_146 ⟨hb2.1, by omega⟩ (gI_ne _ _ _ _ (by decide)) ?_
                      refine fr_iconst (pc := 136) dX12_asks_136 (by decide) ?_
                      refine fr_iconst (pc := 137) dX12_asks_137 (by decide) ?_
                      refine fr_inSI (as := [(0, gI M4 146 a1), (0, (-1)), (0, 1)]) (rest := []) (ls' := [(0, gI M4 146 a1), (0, (-1)), (0, 1)]) (c1 := 0) (c2 := 0) (pc := 138) dX12_asks_138 pl_12_147 rfl ⟨Nat.le_of_ble_eq_true rfl, Nat.le_of_ble_eq_true rfl⟩ rfl rfl  (by omega) rfl rfl (pm_zc _) ?_ (fun y M' h => h)
                      refine fr_iload_n (pc := 0) dX12_within_0 rfl rfl ?_
                      refine fr_iload_n (pc := 1) dX12_within_1 rfl rfl ?_
                      refine fr_icm_lt (tg := 14) (pc := 2) dX12_within_2 rfl hq (fun hc26 hq => ?_) (fun hc26 hq => ?_)
                      · refine fr_iconst (pc := 14) dX12_within_14 (by decide) ?_
                        refine fr_iret (pc := 15) dX12_within_15 (Or.inr (Or.inl ⟨rfl, Or.inl rfl⟩)) ?_
                        refine fr_ifcF (tg := 148) (pc := 141) dX12_asks_141 rfl rfl ?_
                        refine fr_iconst (pc := 144) dX12_asks_144 (by decide) ?_
                        refine fr_goto (tg := 149) (pc := 145) dX12_asks_145 rfl ?_
                        exact fr_iret (pc := 149) dX12_asks_149 (Or.inr (Or.inl ⟨rfl, Or.inr rfl⟩)) hq
                      · refine fr_iload_n (pc := 5) dX12_within_5 rfl rfl ?_
                        refine fr_iload_n (pc := 6) dX12_within_6 rfl rfl ?_
                        refine fr_icm_gt (tg := 14) (pc := 7) dX12_within_7 rfl hq (fun hc27 hq => ?_) (fun hc27 hq => ?_)
                        · refine fr_iconst (pc := 10) dX12_within_10 (by decide) ?_
                          refine fr_goto (tg := 15) (pc := 11) dX12_within_11 rfl ?_
                          refine fr_iret (pc := 15) dX12_within_15 (Or.inr (Or.inl ⟨rfl, Or.inr rfl⟩)) ?_
                          refine fr_ifcT (tg := 148) (pc := 141) dX12_asks_141 rfl rfl ?_
                          refine fr_iconst (pc := 148) dX12_asks_148 (by decide) ?_
                          exact fr_iret (pc := 149) dX12_asks_149 (Or.inr (Or.inl ⟨rfl, Or.inl rfl⟩)) hq
                        · refine fr_iconst (pc := 14) dX12_within_14 (by decide) ?_
                          refine fr_iret (pc := 15) dX12_within_15 (Or.inr (Or.inl ⟨rfl, Or.inl rfl⟩)) ?_
                          refine fr_ifcF (tg := 148) (pc := 141) dX12_asks_141 rfl rfl ?_
                          refine fr_iconst (pc := 144) dX12_asks_144 (by decide) ?_
                          refine fr_goto (tg := 149) (pc := 145) dX12_asks_145 rfl ?_
                          exact fr_iret (pc := 149) dX12_asks_149 (Or.inr (Or.inl ⟨rfl, Or.inr rfl⟩)) hq
                    · refine fr_iconst (pc := 148) dX12_asks_148 (by decide) ?_
                      exact fr_iret (pc := 149) dX12_asks_149 (Or.inr (Or.inl ⟨rfl, Or.inl rfl⟩)) hq
                · refine fr_iconst (pc := 116) dX12_asks_116 (by decide) ?_
                  refine fr_put (a := 142) (i := 45) (pc := 117) dX12_asks_117 rfl pf_12_345 rfl s0_142 rfl rfl nf_142_45 rfl ?_
                  refine fr_iload_n (pc := 120) dX12_asks_120 rfl rfl ?_
                  refine fr_iconst (pc := 121) dX12_asks_121 (by decide) ?_
                  refine fr_icm_lt (tg := 144) (pc := 122) dX12_asks_122 rfl hq (fun hc28 hq => ?_) (fun hc28 hq => ?_)
                  · refine fr_iconst (pc := 144) dX12_asks_144 (by decide) ?_
                    refine fr_goto (tg := 149) (pc := 145) dX12_asks_145 rfl ?_
                    exact fr_iret (pc := 149) dX12_asks_149 (Or.inr (Or.inl ⟨rfl, Or.inr rfl⟩)) hq
                  · refine fr_iload_n (pc := 125) dX12_asks_125 rfl rfl ?_
                    refine fr_iconst (pc := 126) dX12_asks_126 (by decide) ?_
                    refine fr_icm_ne (tg := 148) (pc := 127) dX12_asks_127 rfl hq (fun hc29 hq => ?_) (fun hc29 hq => ?_)
                    · refine fr_aload_n (pc := 130) dX12_asks_130 rfl rfl ?_
                      refine fr_getr (a := 142) (pc := 131) dX12_asks_131 rfl pf_12_20 s0_142 rfl rf_142_11 ?_
                      refine fr_iload_n (pc := 134) dX12_asks_134 rfl rfl ?_
                      refine fr_iaload (a := 146) (v := gI M4 146 a1) (pc := 135) dX12_asks_135 rfl s0_146 ⟨hb2.1, by omega⟩ (gI_ne _ _ _ _ (by decide)) ?_
                      refine fr_iconst (pc := 136) dX12_asks_136 (by decide) ?_
                      refine fr_iconst (pc := 137) dX12_asks_137 (by decide) ?_
                      refine fr_inSI (as := [(0, gI M4 146 a1), (0, (-1)), (0, 1)]) (rest := []) (ls' := [(0, gI M4 146 a1), (0, (-1)), (0, 1)]) (c1 := 0) (c2 := 0) (pc := 138) dX12_asks_138 pl_12_147 rfl ⟨Nat.le_of_ble_eq_true rfl, Nat.le_of_ble_eq_true rfl⟩ rfl rfl  (by omega) rfl rfl (pm_zc _) ?_ (fun y M' h => h)
                      refine fr_iload_n (pc := 0) dX12_within_0 rfl rfl ?_
                      refine fr_iload_n (pc := 1) dX12_within_1 rfl rfl ?_
                      refine fr_icm_lt (tg := 14) (pc := 2) dX12_within_2 rfl hq (fun hc30 hq => ?_) (fun hc30 hq => ?_)
                      · refine fr_iconst (pc := 14) dX12_within_14 (by decide) ?_
                        refine fr_iret (pc := 15) dX12_within_15 (Or.inr (Or.inl ⟨rfl, Or.inl rfl⟩)) ?_
                        refine fr_ifcF (tg := 148) (pc := 141) dX12_asks_141 rfl rfl ?_
                        refine fr_iconst (pc := 144) dX12_asks_144 (by decide) ?_
                        refine fr_goto (tg := 149) (pc := 145) dX12_asks_145 rfl ?_
                        exact fr_iret (pc := 149) dX12_asks_149 (Or.inr (Or.inl ⟨rfl, Or.inr rfl⟩)) hq
                      · refine fr_iload_n (pc := 5) dX12_within_5 rfl rfl ?_
                        refine fr_iload_n (pc := 6) dX12_within_6 rfl rfl ?_
                        refine fr_icm_gt (tg := 14) (pc := 7) dX12_within_7 rfl hq (fun hc31 hq => ?_) (fun hc31 hq => ?_)
                        · refine fr_iconst (pc := 10) dX12_within_10 (by decide) ?_
                          refine fr_goto (tg := 15) (pc := 11) dX12_within_11 rfl ?_
                          refine fr_iret (pc := 15) dX12_within_15 (Or.inr (Or.inl ⟨rfl, Or.inr rfl⟩)) ?_
                          refine fr_ifcT (tg := 148) (pc := 141) dX12_asks_141 rfl rfl ?_
                          refine fr_iconst (pc := 148) dX12_asks_148 (by decide) ?_
                          exact fr_iret (pc := 149) dX12_asks_149 (Or.inr (Or.inl ⟨rfl, Or.inl rfl⟩)) hq
                        · refine fr_iconst (pc := 14) dX12_within_14 (by decide) ?_
                          refine fr_iret (pc := 15) dX12_within_15 (Or.inr (Or.inl ⟨rfl, Or.inl rfl⟩)) ?_
                          refine fr_ifcF (tg := 148) (pc := 141) dX12_asks_141 rfl rfl ?_
                          refine fr_iconst (pc := 144) dX12_asks_144 (by decide) ?_
                          refine fr_goto (tg := 149) (pc := 145) dX12_asks_145 rfl ?_
                          exact fr_iret (pc := 149) dX12_asks_149 (Or.inr (Or.inl ⟨rfl, Or.inr rfl⟩)) hq
                    · refine fr_iconst (pc := 148) dX12_asks_148 (by decide) ?_
                      exact fr_iret (pc := 149) dX12_asks_149 (Or.inr (Or.inl ⟨rfl, Or.inl rfl⟩)) hq
            · refine pm_ite hq (fun hc32 hq => ?_) (fun hc32 hq => ?_)
              · refine fr_tabV (tg := 150) (off := 110) (v := 5) (pc := 40) dX12_asks_40 hc32 (by decide) rfl rfl ?_
                refine fr_aload_n (pc := 150) dX12_asks_150 rfl rfl ?_
                refine fr_iload_n (pc := 151) dX12_asks_151 rfl rfl ?_
                refine fr_iconst (pc := 152) dX12_asks_152 (by decide) ?_
                refine fr_bipush (pc := 153) dX12_asks_153 (by decide) ?_
                refine fr_aload_n (pc := 155) dX12_asks_155 rfl rfl ?_
                refine fr_getf (a := 142) (i := 22) (v := gI M4 142 22) (t := 0) (pc := 156) dX12_asks_156 rfl pf_12_235 rfl s0_142 rfl rfl ?_
                refine fr_aload_n (pc := 159) dX12_asks_159 rfl rfl ?_
                refine fr_getr (a := 142) (pc := 160) dX12_asks_160 rfl pf_12_20 s0_142 rfl rf_142_11 ?_
                refine fr_iload_n (pc := 163) dX12_asks_163 rfl rfl ?_
                refine fr_iaload (a := 146) (v := gI M4 146 a1) (pc := 164) dX12_asks_164 rfl s0_146 ⟨hb2.1, by omega⟩ rfl ?_
                refine fr_inSI (as := [(0, a2), (0, 0), (0, 8), (0, gI M4 142 22), (0, gI M4 146 a1)]) (rest := [(2, 142)]) (ls' := [(0, a2), (0, 0), (0, 8), (0, gI M4 142 22), (0, gI M4 146 a1), (9, 0), (9, 0)]) (c1 := 0) (c2 := 0) (pc := 165) dX12_asks_165 pl_12_351 rfl ⟨Nat.le_of_ble_eq_true rfl, Nat.le_of_ble_eq_true rfl⟩ rfl rfl  (by omega) rfl rfl (pm_zc _) (hq sc _ (by omega)) (fun r34 M33 hq => ?_)
                refine fr_put (a := 142) (i := 45) (pc := 168) dX12_asks_168 rfl pf_12_345 rfl s0_142 rfl rfl nf_142_45 rfl ?_
                refine fr_aload_n (pc := 171) dX12_asks_171 rfl rfl ?_
                refine fr_getf (a := 142) (i := 45) (v := r34) (t := 0) (pc := 172) dX12_asks_172 rfl pf_12_345 rfl s0_142 rfl (gI_eq _ _ _ _) ?_
                refine fr_iconst (pc := 175) dX12_asks_175 (by decide) ?_
                refine fr_icm_eq (tg := 183) (pc := 176) dX12_asks_176 rfl hq (fun hc35 hq => ?_) (fun hc35 hq => ?_)
                · refine fr_iconst (pc := 183) dX12_asks_183 (by decide) ?_
                  exact fr_iret (pc := 184) dX12_asks_184 (Or.inr (Or.inl ⟨rfl, Or.inl rfl⟩)) hq
                · refine fr_iconst (pc := 179) dX12_asks_179 (by decide) ?_
                  refine fr_goto (tg := 184) (pc := 180) dX12_asks_180 rfl ?_
                  exact fr_iret (pc := 184) dX12_asks_184 (Or.inr (Or.inl ⟨rfl, Or.inr rfl⟩)) hq
              · refine pm_ite hq (fun hc36 hq => ?_) (fun hc36 hq => ?_)
                · refine fr_tabV (tg := 230) (off := 190) (v := 6) (pc := 40) dX12_asks_40 hc36 (by decide) rfl rfl ?_
                  refine fr_aload_n (pc := 230) dX12_asks_230 rfl rfl ?_
                  refine fr_aload_n (pc := 231) dX12_asks_231 rfl rfl ?_
                  refine fr_getr (a := 142) (pc := 232) dX12_asks_232 rfl pf_12_41 s0_142 rfl rf_142_23 ?_
                  refine fr_iload_n (pc := 235) dX12_asks_235 rfl rfl ?_
                  refine fr_iaload (a := 153) (v := gI M4 153 a1) (pc := 236) dX12_asks_236 rfl s0_153 hb2 rfl ?_
                  refine fr_iconst (pc := 237) dX12_asks_237 (by decide) ?_
                  refine fr_ior (z := pm_ior (gI M4 153 a1) 1) (pc := 238) dX12_asks_238 rfl ?_
                  refine fr_put (a := 142) (i := 46) (pc := 239) dX12_asks_239 rfl pf_12_348 rfl s0_142 rfl rfl nf_142_46 rfl ?_
                  refine fr_iload_n (pc := 242) dX12_asks_242 rfl rfl ?_
                  refine fr_ifc_ne (tg := 250) (pc := 243) dX12_asks_243 rfl hq (fun hc37 hq => ?_) (fun hc37 hq => ?_)
                  · refine fr_iconst (pc := 246) dX12_asks_246 (by decide) ?_
                    refine fr_goto (tg := 251) (pc := 247) dX12_asks_247 rfl ?_
                    exact fr_iret (pc := 251) dX12_asks_251 (Or.inr (Or.inl ⟨rfl, Or.inr rfl⟩)) hq
                  · refine fr_iconst (pc := 250) dX12_asks_250 (by decide) ?_
                    exact fr_iret (pc := 251) dX12_asks_251 (Or.inr (Or.inl ⟨rfl, Or.inl rfl⟩)) hq
                · refine pm_ite hq (fun hc38 hq => ?_) (fun hc38 hq => ?_)
                  · refine fr_tabV (tg := 185) (off := 145) (v := 7) (pc := 40) dX12_asks_40 hc38 (by decide) rfl rfl ?_
                    refine fr_aload_n (pc := 185) dX12_asks_185 rfl rfl ?_
                    refine fr_iload_n (pc := 186) dX12_asks_186 rfl rfl ?_
                    refine fr_iload_n (pc := 187) dX12_asks_187 rfl rfl ?_
                    refine fr_inVI (a := 142) (as := [(0, a1), (0, a2)]) (rest := []) (ls' := [(2, 142), (0, a1), (0, a2), (9, 0), (9, 0)]) (c1 := 0) (c2 := 0) (pc := 188) dX12_asks_188 pl_12_355 rfl ⟨Nat.le_of_ble_eq_true rfl, Nat.le_of_ble_eq_true rfl⟩ rfl rfl rfl s0_142 (Nat.le_of_ble_eq_true rfl) (by omega) rfl rfl (pm_zc _) (hq sc _ (by omega)) (fun r40 M39 hq => ?_)
                    obtain ⟨hz41, hq⟩ := hq
                    exact fr_iret (pc := 191) dX12_asks_191 (Or.inr (Or.inl ⟨rfl, hz41⟩)) hq
                  · refine fr_tableO (tg := 230) (pc := 40) dX12_asks_40 (by omega) rfl ?_
                    refine fr_aload_n (pc := 230) dX12_asks_230 rfl rfl ?_
                    refine fr_aload_n (pc := 231) dX12_asks_231 rfl rfl ?_
                    refine fr_getr (a := 142) (pc := 232) dX12_asks_232 rfl pf_12_41 s0_142 rfl rf_142_23 ?_
                    refine fr_iload_n (pc := 235) dX12_asks_235 rfl rfl ?_
                    refine fr_iaload (a := 153) (v := gI M4 153 a1) (pc := 236) dX12_asks_236 rfl s0_153 hb2 rfl ?_
                    refine fr_iconst (pc := 237) dX12_asks_237 (by decide) ?_
                    refine fr_ior (z := pm_ior (gI M4 153 a1) 1) (pc := 238) dX12_asks_238 rfl ?_
                    refine fr_put (a := 142) (i := 46) (pc := 239) dX12_asks_239 rfl pf_12_348 rfl s0_142 rfl rfl nf_142_46 rfl ?_
                    refine fr_iload_n (pc := 242) dX12_asks_242 rfl rfl ?_
                    refine fr_ifc_ne (tg := 250) (pc := 243) dX12_asks_243 rfl hq (fun hc42 hq => ?_) (fun hc42 hq => ?_)
                    · refine fr_iconst (pc := 246) dX12_asks_246 (by decide) ?_
                      refine fr_goto (tg := 251) (pc := 247) dX12_asks_247 rfl ?_
                      exact fr_iret (pc := 251) dX12_asks_251 (Or.inr (Or.inl ⟨rfl, Or.inr rfl⟩)) hq
                    · refine fr_iconst (pc := 250) dX12_asks_250 (by decide) ?_
                      exact fr_iret (pc := 251) dX12_asks_251 (Or.inr (Or.inl ⟨rfl, Or.inl rfl⟩)) hq
    · refine fr_iconst (pc := 32) dX12_asks_32 (by decide) ?_
      exact fr_iret (pc := 33) dX12_asks_33 (Or.inr (Or.inl ⟨rfl, Or.inl rfl⟩)) hq
theorem k12_otherOf_r {a1 a2 a3 a4 a5 : Int} {M : pm_M} {K : Int → pm_M → Prop} (hq : k12_otherOf_6 a3 a4 a5 a1 a2 M K) : k12_otherOf a1 a2 a3 a4 a5 M K := by
  intro sc d hd
  refine fr_iload_n (pc := 0) dX12_otherOf_0 rfl rfl ?_
  refine fr_istore (ls2 := [(0, a1), (0, a2), (0, a3), (0, a4), (0, a5), (0, a1), (9, 0)]) (pc := 1) dX12_otherOf_1 rfl (Nat.le_of_ble_eq_true rfl) rfl ?_
  refine fr_iload_n (pc := 3) dX12_otherOf_3 rfl rfl ?_
  refine fr_istore (ls2 := [(0, a1), (0, a2), (0, a3), (0, a4), (0, a5), (0, a1), (0, a2)]) (pc := 4) dX12_otherOf_4 rfl (Nat.le_of_ble_eq_true rfl) rfl ?_
  exact hq sc d hd (0, a1) pm_t0 (0, a2) pm_t0
theorem k12_otherOf_6_r {l2 l3 l4 l5 l6 : Int} {M : pm_M} {K : Int → pm_M → Prop} (hq : (if l6 ≤ l2 then (if l6 = l4 then k12_otherOf_6 l2 l3 l4 l5 (w32 (l6 + 1)) M K else (if pm_iand (pm_ishr l3 l6) 1 = 1 then (if l5 = 0 then K l6 M else k12_otherOf_6 l2 l3 l4 (w32 (l5 + (-1))) (w32 (l6 + 1)) M K) else k12_otherOf_6 l2 l3 l4 l5 (w32 (l6 + 1)) M K)) else K (-1) M)) : k12_otherOf_6 l2 l3 l4 l5 l6 M K := by
  intro sc d hd z0 hz0 z1 hz1
  refine fr_iload (pc := 6) dX12_otherOf_6 rfl rfl ?_
  refine fr_iload_n (pc := 8) dX12_otherOf_8 rfl rfl ?_
  refine fr_icm_gt (tg := 46) (pc := 9) dX12_otherOf_9 rfl hq (fun hc1 hq => ?_) (fun hc1 hq => ?_)
  · refine fr_iload (pc := 12) dX12_otherOf_12 rfl rfl ?_
    refine fr_iload (pc := 14) dX12_otherOf_14 rfl rfl ?_
    refine fr_icm_eq (tg := 40) (pc := 16) dX12_otherOf_16 rfl hq (fun hc2 hq => ?_) (fun hc2 hq => ?_)
    · refine fr_iinc (z := w32 (l6 + 1)) (ls2 := [z0, z1, (0, l2), (0, l3), (0, l4), (0, l5), (0, w32 (l6 + 1))]) (pc := 40) dX12_otherOf_40 (Nat.le_of_ble_eq_true rfl) rfl rfl rfl ?_
      refine fr_goto (tg := 6) (pc := 43) dX12_otherOf_43 rfl ?_
      exact hq sc d hd z0 hz0 z1 hz1
    · refine fr_iload_n (pc := 19) dX12_otherOf_19 rfl rfl ?_
      refine fr_iload (pc := 20) dX12_otherOf_20 rfl rfl ?_
      refine fr_ishr (z := pm_ishr l3 l6) (pc := 22) dX12_otherOf_22 rfl ?_
      refine fr_iconst (pc := 23) dX12_otherOf_23 (by decide) ?_
      refine fr_iand (z := pm_iand (pm_ishr l3 l6) 1) (pc := 24) dX12_otherOf_24 rfl ?_
      refine fr_iconst (pc := 25) dX12_otherOf_25 (by decide) ?_
      refine fr_icm_ne (tg := 40) (pc := 26) dX12_otherOf_26 rfl hq (fun hc3 hq => ?_) (fun hc3 hq => ?_)
      · refine fr_iload (pc := 29) dX12_otherOf_29 rfl rfl ?_
        refine fr_ifc_ne (tg := 37) (pc := 31) dX12_otherOf_31 rfl hq (fun hc4 hq => ?_) (fun hc4 hq => ?_)
        · refine fr_iload (pc := 34) dX12_otherOf_34 rfl rfl ?_
          exact fr_iret (pc := 36) dX12_otherOf_36 (Or.inl rfl) hq
        · refine fr_iinc (z := w32 (l5 + (-1))) (ls2 := [z0, z1, (0, l2), (0, l3), (0, l4), (0, w32 (l5 + (-1))), (0, l6)]) (pc := 37) dX12_otherOf_37 (Nat.le_of_ble_eq_true rfl) rfl rfl rfl ?_
          refine fr_iinc (z := w32 (l6 + 1)) (ls2 := [z0, z1, (0, l2), (0, l3), (0, l4), (0, w32 (l5 + (-1))), (0, w32 (l6 + 1))]) (pc := 40) dX12_otherOf_40 (Nat.le_of_ble_eq_true rfl) rfl rfl rfl ?_
          refine fr_goto (tg := 6) (pc := 43) dX12_otherOf_43 rfl ?_
          exact hq sc d hd z0 hz0 z1 hz1
      · refine fr_iinc (z := w32 (l6 + 1)) (ls2 := [z0, z1, (0, l2), (0, l3), (0, l4), (0, l5), (0, w32 (l6 + 1))]) (pc := 40) dX12_otherOf_40 (Nat.le_of_ble_eq_true rfl) rfl rfl rfl ?_
        refine fr_goto (tg := 6) (pc := 43) dX12_otherOf_43 rfl ?_
        exact hq sc d hd z0 hz0 z1 hz1
  · refine fr_iconst (pc := 46) dX12_otherOf_46 (by decide) ?_
    exact fr_iret (pc := 47) dX12_otherOf_47 (Or.inl rfl) hq
theorem k12_asksSides_r {a1 a2 : Int} {M : pm_M} {K : Int → pm_M → Prop} (hq : ((0 ≤ a1 ∧ a1 < 800) ∧ (if gI M 146 a1 ≤ 4 then k12_otherOf a2 0 4 2047 (gI M 146 a1) M (fun r4 M3 => (if r4 = (-1) then ((0 ≤ a1 ∧ a1 < 60) ∧ (if a2 = 4 then (if gI M 146 a1 = 1 then K 1 (upI (upI (upI M3 142 45 r4) 142 45 (gI M 146 a1)) 142 46 (pm_ixor (gI M3 153 a1) 4)) else (if gI M 146 a1 = 3 then K 1 (upI (upI (upI M3 142 45 r4) 142 45 (gI M 146 a1)) 142 46 (pm_ixor (gI M3 153 a1) 4)) else (if gI M 146 a1 = 4 then K 1 (upI (upI (upI M3 142 45 r4) 142 45 (gI M 146 a1)) 142 46 (pm_ixor (gI M3 153 a1) 4)) else K 0 (upI (upI (upI M3 142 45 r4) 142 45 (gI M 146 a1)) 142 46 (pm_ixor (gI M3 153 a1) 4))))) else K 0 (upI (upI (upI M3 142 45 r4) 142 45 (gI M 146 a1)) 142 46 (pm_ixor (gI M3 153 a1) 4)))) else K 1 (upI M3 142 45 r4))) else k12_otherOf a2 5 10 2047 (gI M 146 a1) M (fun r12 M11 => (if r12 = (-1) then ((0 ≤ a1 ∧ a1 < 60) ∧ (if a2 = 4 then (if gI M 146 a1 = 1 then K 1 (upI (upI (upI M11 142 45 r12) 142 45 (gI M 146 a1)) 142 46 (pm_ixor (gI M11 153 a1) 4)) else (if gI M 146 a1 = 3 then K 1 (upI (upI (upI M11 142 45 r12) 142 45 (gI M 146 a1)) 142 46 (pm_ixor (gI M11 153 a1) 4)) else (if gI M 146 a1 = 4 then K 1 (upI (upI (upI M11 142 45 r12) 142 45 (gI M 146 a1)) 142 46 (pm_ixor (gI M11 153 a1) 4)) else K 0 (upI (upI (upI M11 142 45 r12) 142 45 (gI M 146 a1)) 142 46 (pm_ixor (gI M11 153 a1) 4))))) else K 0 (upI (upI (upI M11 142 45 r12) 142 45 (gI M 146 a1)) 142 46 (pm_ixor (gI M11 153 a1) 4)))) else K 1 (upI M11 142 45 r12)))))) : k12_asksSides a1 a2 M K := by
  intro sc d hd
  refine fr_aload_n (pc := 0) dX12_asksSides_0 rfl rfl ?_
  refine fr_getr (a := 142) (pc := 1) dX12_asksSides_1 rfl pf_12_20 s0_142 rfl rf_142_11 ?_
  refine fr_iload_n (pc := 4) dX12_asksSides_4 rfl rfl ?_
  obtain ⟨hb1, hq⟩ := hq
  refine fr_iaload (a := 146) (v := gI M 146 a1) (pc := 5) dX12_asksSides_5 rfl s0_146 hb1 rfl ?_
  refine fr_istore_n (ls2 := [(2, 142), (0, a1), (0, a2), (0, gI M 146 a1), (9, 0)]) (pc := 6) dX12_asksSides_6 rfl (Nat.le_of_ble_eq_true rfl) rfl ?_
  refine fr_iload_n (pc := 7) dX12_asksSides_7 rfl rfl ?_
  refine fr_iconst (pc := 8) dX12_asksSides_8 (by decide) ?_
  refine fr_icm_le (tg := 16) (pc := 9) dX12_asksSides_9 rfl hq (fun hc2 hq => ?_) (fun hc2 hq => ?_)
  · refine fr_iconst (pc := 16) dX12_asksSides_16 (by decide) ?_
    refine fr_istore (ls2 := [(2, 142), (0, a1), (0, a2), (0, gI M 146 a1), (0, 0)]) (pc := 17) dX12_asksSides_17 rfl (Nat.le_of_ble_eq_true rfl) rfl ?_
    refine fr_aload_n (pc := 19) dX12_asksSides_19 rfl rfl ?_
    refine fr_iload (pc := 20) dX12_asksSides_20 rfl rfl ?_
    refine fr_ifcT (tg := 39) (pc := 22) dX12_asksSides_22 rfl rfl ?_
    refine fr_iload_n (pc := 39) dX12_asksSides_39 rfl rfl ?_
    refine fr_iconst (pc := 40) dX12_asksSides_40 (by decide) ?_
    refine fr_iconst (pc := 41) dX12_asksSides_41 (by decide) ?_
    refine fr_sipush (pc := 42) dX12_asksSides_42 (by decide) ?_
    refine fr_iload_n (pc := 45) dX12_asksSides_45 rfl rfl ?_
    refine fr_inSI (as := [(0, a2), (0, 0), (0, 4), (0, 2047), (0, gI M 146 a1)]) (rest := [(2, 142)]) (ls' := [(0, a2), (0, 0), (0, 4), (0, 2047), (0, gI M 146 a1), (9, 0), (9, 0)]) (c1 := 0) (c2 := 0) (pc := 46) dX12_asksSides_46 pl_12_351 rfl ⟨Nat.le_of_ble_eq_true rfl, Nat.le_of_ble_eq_true rfl⟩ rfl rfl  (by omega) rfl rfl (pm_zc _) (hq sc _ (by omega)) (fun r4 M3 hq => ?_)
    refine fr_put (a := 142) (i := 45) (pc := 49) dX12_asksSides_49 rfl pf_12_345 rfl s0_142 rfl rfl nf_142_45 rfl ?_
    refine fr_aload_n (pc := 52) dX12_asksSides_52 rfl rfl ?_
    refine fr_getf (a := 142) (i := 45) (v := r4) (t := 0) (pc := 53) dX12_asksSides_53 rfl pf_12_345 rfl s0_142 rfl (gI_eq _ _ _ _) ?_
    refine fr_iconst (pc := 56) dX12_asksSides_56 (by decide) ?_
    refine fr_icm_eq (tg := 62) (pc := 57) dX12_asksSides_57 rfl hq (fun hc5 hq => ?_) (fun hc5 hq => ?_)
    · refine fr_aload_n (pc := 62) dX12_asksSides_62 rfl rfl ?_
      refine fr_iload_n (pc := 63) dX12_asksSides_63 rfl rfl ?_
      refine fr_put (a := 142) (i := 45) (pc := 64) dX12_asksSides_64 rfl pf_12_345 rfl s0_142 rfl rfl nf_142_45 rfl ?_
      refine fr_aload_n (pc := 67) dX12_asksSides_67 rfl rfl ?_
      refine fr_aload_n (pc := 68) dX12_asksSides_68 rfl rfl ?_
      refine fr_getr (a := 142) (pc := 69) dX12_asksSides_69 rfl pf_12_41 s0_142 rfl rf_142_23 ?_
      refine fr_iload_n (pc := 72) dX12_asksSides_72 rfl rfl ?_
      obtain ⟨hb6, hq⟩ := hq
      refine fr_iaload (a := 153) (v := gI M3 153 a1) (pc := 73) dX12_asksSides_73 rfl s0_153 hb6 ((gI_ne _ _ _ _ (by decide)).trans (gI_ne _ _ _ _ (by decide))) ?_
      refine fr_iconst (pc := 74) dX12_asksSides_74 (by decide) ?_
      refine fr_ixor (z := pm_ixor (gI M3 153 a1) 4) (pc := 75) dX12_asksSides_75 rfl ?_
      refine fr_put (a := 142) (i := 46) (pc := 76) dX12_asksSides_76 rfl pf_12_348 rfl s0_142 rfl rfl nf_142_46 rfl ?_
      refine fr_iload_n (pc := 79) dX12_asksSides_79 rfl rfl ?_
      refine fr_iconst (pc := 80) dX12_asksSides_80 (by decide) ?_
      refine fr_icm_ne (tg := 103) (pc := 81) dX12_asksSides_81 rfl hq (fun hc7 hq => ?_) (fun hc7 hq => ?_)
      · refine fr_iload_n (pc := 84) dX12_asksSides_84 rfl rfl ?_
        refine fr_iconst (pc := 85) dX12_asksSides_85 (by decide) ?_
        refine fr_icm_eq (tg := 99) (pc := 86) dX12_asksSides_86 rfl hq (fun hc8 hq => ?_) (fun hc8 hq => ?_)
        · refine fr_iconst (pc := 99) dX12_asksSides_99 (by decide) ?_
          refine fr_goto (tg := 104) (pc := 100) dX12_asksSides_100 rfl ?_
          exact fr_iret (pc := 104) dX12_asksSides_104 (Or.inr (Or.inl ⟨rfl, Or.inr rfl⟩)) hq
        · refine fr_iload_n (pc := 89) dX12_asksSides_89 rfl rfl ?_
          refine fr_iconst (pc := 90) dX12_asksSides_90 (by decide) ?_
          refine fr_icm_eq (tg := 99) (pc := 91) dX12_asksSides_91 rfl hq (fun hc9 hq => ?_) (fun hc9 hq => ?_)
          · refine fr_iconst (pc := 99) dX12_asksSides_99 (by decide) ?_
            refine fr_goto (tg := 104) (pc := 100) dX12_asksSides_100 rfl ?_
            exact fr_iret (pc := 104) dX12_asksSides_104 (Or.inr (Or.inl ⟨rfl, Or.inr rfl⟩)) hq
          · refine fr_iload_n (pc := 94) dX12_asksSides_94 rfl rfl ?_
            refine fr_iconst (pc := 95) dX12_asksSides_95 (by decide) ?_
            refine fr_icm_ne (tg := 103) (pc := 96) dX12_asksSides_96 rfl hq (fun hc10 hq => ?_) (fun hc10 hq => ?_)
            · refine fr_iconst (pc := 99) dX12_asksSides_99 (by decide) ?_
              refine fr_goto (tg := 104) (pc := 100) dX12_asksSides_100 rfl ?_
              exact fr_iret (pc := 104) dX12_asksSides_104 (Or.inr (Or.inl ⟨rfl, Or.inr rfl⟩)) hq
            · refine fr_iconst (pc := 103) dX12_asksSides_103 (by decide) ?_
              exact fr_iret (pc := 104) dX12_asksSides_104 (Or.inr (Or.inl ⟨rfl, Or.inl rfl⟩)) hq
      · refine fr_iconst (pc := 103) dX12_asksSides_103 (by decide) ?_
        exact fr_iret (pc := 104) dX12_asksSides_104 (Or.inr (Or.inl ⟨rfl, Or.inl rfl⟩)) hq
    · refine fr_iconst (pc := 60) dX12_asksSides_60 (by decide) ?_
      exact fr_iret (pc := 61) dX12_asksSides_61 (Or.inr (Or.inl ⟨rfl, Or.inr rfl⟩)) hq
  · refine fr_iconst (pc := 12) dX12_asksSides_12 (by decide) ?_
    refine fr_goto (tg := 17) (pc := 13) dX12_asksSides_13 rfl ?_
    refine fr_istore (ls2 := [(2, 142), (0, a1), (0, a2), (0, gI M 146 a1), (0, 1)]) (pc := 17) dX12_asksSides_17 rfl (Nat.le_of_ble_eq_true rfl) rfl ?_
    refine fr_aload_n (pc := 19) dX12_asksSides_19 rfl rfl ?_
    refine fr_iload (pc := 20) dX12_asksSides_20 rfl rfl ?_
    refine fr_ifcF (tg := 39) (pc := 22) dX12_asksSides_22 rfl rfl ?_
    refine fr_iload_n (pc := 25) dX12_asksSides_25 rfl rfl ?_
    refine fr_iconst (pc := 26) dX12_asksSides_26 (by decide) ?_
    refine fr_bipush (pc := 27) dX12_asksSides_27 (by decide) ?_
    refine fr_sipush (pc := 29) dX12_asksSides_29 (by decide) ?_
    refine fr_iload_n (pc := 32) dX12_asksSides_32 rfl rfl ?_
    refine fr_inSI (as := [(0, a2), (0, 5), (0, 10), (0, 2047), (0, gI M 146 a1)]) (rest := [(2, 142)]) (ls' := [(0, a2), (0, 5), (0, 10), (0, 2047), (0, gI M 146 a1), (9, 0), (9, 0)]) (c1 := 0) (c2 := 0) (pc := 33) dX12_asksSides_33 pl_12_351 rfl ⟨Nat.le_of_ble_eq_true rfl, Nat.le_of_ble_eq_true rfl⟩ rfl rfl  (by omega) rfl rfl (pm_zc _) (hq sc _ (by omega)) (fun r12 M11 hq => ?_)
    refine fr_goto (tg := 49) (pc := 36) dX12_asksSides_36 rfl ?_
    refine fr_put (a := 142) (i := 45) (pc := 49) dX12_asksSides_49 rfl pf_12_345 rfl s0_142 rfl rfl nf_142_45 rfl ?_
    refine fr_aload_n (pc := 52) dX12_asksSides_52 rfl rfl ?_
    refine fr_getf (a := 142) (i := 45) (v := r12) (t := 0) (pc := 53) dX12_asksSides_53 rfl pf_12_345 rfl s0_142 rfl (gI_eq _ _ _ _) ?_
    refine fr_iconst (pc := 56) dX12_asksSides_56 (by decide) ?_
    refine fr_icm_eq (tg := 62) (pc := 57) dX12_asksSides_57 rfl hq (fun hc13 hq => ?_) (fun hc13 hq => ?_)
    · refine fr_aload_n (pc := 62) dX12_asksSides_62 rfl rfl ?_
      refine fr_iload_n (pc := 63) dX12_asksSides_63 rfl rfl ?_
      refine fr_put (a := 142) (i := 45) (pc := 64) dX12_asksSides_64 rfl pf_12_345 rfl s0_142 rfl rfl nf_142_45 rfl ?_
      refine fr_aload_n (pc := 67) dX12_asksSides_67 rfl rfl ?_
      refine fr_aload_n (pc := 68) dX12_asksSides_68 rfl rfl ?_
      refine fr_getr (a := 142) (pc := 69) dX12_asksSides_69 rfl pf_12_41 s0_142 rfl rf_142_23 ?_
      refine fr_iload_n (pc := 72) dX12_asksSides_72 rfl rfl ?_
      obtain ⟨hb14, hq⟩ := hq
      refine fr_iaload (a := 153) (v := gI M11 153 a1) (pc := 73) dX12_asksSides_73 rfl s0_153 hb14 ((gI_ne _ _ _ _ (by decide)).trans (gI_ne _ _ _ _ (by decide))) ?_
      refine fr_iconst (pc := 74) dX12_asksSides_74 (by decide) ?_
      refine fr_ixor (z := pm_ixor (gI M11 153 a1) 4) (pc := 75) dX12_asksSides_75 rfl ?_
      refine fr_put (a := 142) (i := 46) (pc := 76) dX12_asksSides_76 rfl pf_12_348 rfl s0_142 rfl rfl nf_142_46 rfl ?_
      refine fr_iload_n (pc := 79) dX12_asksSides_79 rfl rfl ?_
      refine fr_iconst (pc := 80) dX12_asksSides_80 (by decide) ?_
      refine fr_icm_ne (tg := 103) (pc := 81) dX12_asksSides_81 rfl hq (fun hc15 hq => ?_) (fun hc15 hq => ?_)
      · refine fr_iload_n (pc := 84) dX12_asksSides_84 rfl rfl ?_
        refine fr_iconst (pc := 85) dX12_asksSides_85 (by decide) ?_
        refine fr_icm_eq (tg := 99) (pc := 86) dX12_asksSides_86 rfl hq (fun hc16 hq => ?_) (fun hc16 hq => ?_)
        · refine fr_iconst (pc := 99) dX12_asksSides_99 (by decide) ?_
          refine fr_goto (tg := 104) (pc := 100) dX12_asksSides_100 rfl ?_
          exact fr_iret (pc := 104) dX12_asksSides_104 (Or.inr (Or.inl ⟨rfl, Or.inr rfl⟩)) hq
        · refine fr_iload_n (pc := 89) dX12_asksSides_89 rfl rfl ?_
          refine fr_iconst (pc := 90) dX12_asksSides_90 (by decide) ?_
          refine fr_icm_eq (tg := 99) (pc := 91) dX12_asksSides_91 rfl hq (fun hc17 hq => ?_) (fun hc17 hq => ?_)
          · refine fr_iconst (pc := 99) dX12_asksSides_99 (by decide) ?_
            refine fr_goto (tg := 104) (pc := 100) dX12_asksSides_100 rfl ?_
            exact fr_iret (pc := 104) dX12_asksSides_104 (Or.inr (Or.inl ⟨rfl, Or.inr rfl⟩)) hq
          · refine fr_iload_n (pc := 94) dX12_asksSides_94 rfl rfl ?_
            refine fr_iconst (pc := 95) dX12_asksSides_95 (by decide) ?_
            refine fr_icm_ne (tg := 103) (pc := 96) dX12_asksSides_96 rfl hq (fun hc18 hq => ?_) (fun hc18 hq => ?_)
            · refine fr_iconst (pc := 99) dX12_asksSides_99 (by decide) ?_
              refine fr_goto (tg := 104) (pc := 100) dX12_asksSides_100 rfl ?_
              exact fr_iret (pc := 104) dX12_asksSides_104 (Or.inr (Or.inl ⟨rfl, Or.inr rfl⟩)) hq
            · refine fr_iconst (pc := 103) dX12_asksSides_103 (by decide) ?_
              exact fr_iret (pc := 104) dX12_asksSides_104 (Or.inr (Or.inl ⟨rfl, Or.inl rfl⟩)) hq
      · refine fr_iconst (pc := 103) dX12_asksSides_103 (by decide) ?_
        exact fr_iret (pc := 104) dX12_asksSides_104 (Or.inr (Or.inl ⟨rfl, Or.inl rfl⟩)) hq
    · refine fr_iconst (pc := 60) dX12_asksSides_60 (by decide) ?_
      exact fr_iret (pc := 61) dX12_asksSides_61 (Or.inr (Or.inl ⟨rfl, Or.inr rfl⟩)) hq
theorem k12_change_r {a1 a2 a3 : Int} {M : pm_M} {K : Int → pm_M → Prop} (hq : (if a1 < 0 then K (-200) (upI M 142 0 0) else (if a1 ≤ w32 ((gI M 144 0) - 1) then (if a3 < 0 then K (-200) (upI M 142 0 0) else (if a3 ≤ 3 then k12_asks a1 a2 (upI M 142 0 0) (fun r6 M5 => (if r6 = 0 then K (-200) M5 else (if a3 = 3 then ((0 ≤ a1 ∧ a1 < 60) ∧ (if gI M5 142 46 = gI M5 153 a1 then K (gI M5 142 45) M5 else K (-100) M5)) else k12_allPass M5 (fun r12 M11 => (if r12 = 0 then k12_asks a1 a2 M11 (fun r15 M14 => ((0 ≤ a1 ∧ a1 < 800) ∧ ((0 ≤ a1 ∧ a1 < 60) ∧ (if a3 = 2 then k12_allPass (upI (upI (upI (upI (upI M14 162 0 a1) 163 0 (gI M14 146 a1)) 164 0 (gI M14 153 a1)) 146 a1 (gI M14 142 45)) 153 a1 (gI M14 142 46)) (fun r20 M19 => (if r20 = 0 then ((0 ≤ gI M19 162 0 ∧ gI M19 162 0 < 800) ∧ ((0 ≤ gI M19 162 0 ∧ gI M19 162 0 < 60) ∧ K 0 (upI (upI M19 146 (gI M19 162 0) (gI M19 163 0)) 153 (gI M19 162 0) (gI M19 164 0)))) else ((0 ≤ gI M19 162 0 ∧ gI M19 162 0 < 800) ∧ ((0 ≤ gI M19 162 0 ∧ gI M19 162 0 < 60) ∧ K 1 (upI (upI M19 146 (gI M19 162 0) (gI M19 163 0)) 153 (gI M19 162 0) (gI M19 164 0)))))) else (if a3 = 1 then k12_manyPass 1 (upI (upI (upI (upI (upI M14 162 0 a1) 163 0 (gI M14 146 a1)) 164 0 (gI M14 153 a1)) 146 a1 (gI M14 142 45)) 153 a1 (gI M14 142 46)) (fun r28 M27 => ((0 ≤ gI M27 162 0 ∧ gI M27 162 0 < 800) ∧ ((0 ≤ gI M27 162 0 ∧ gI M27 162 0 < 60) ∧ K r28 (upI (upI M27 146 (gI M27 162 0) (gI M27 163 0)) 153 (gI M27 162 0) (gI M27 164 0))))) else k12_manyPass 0 (upI (upI (upI (upI (upI M14 162 0 a1) 163 0 (gI M14 146 a1)) 164 0 (gI M14 153 a1)) 146 a1 (gI M14 142 45)) 153 a1 (gI M14 142 46)) (fun r32 M31 => ((0 ≤ gI M31 162 0 ∧ gI M31 162 0 < 800) ∧ ((0 ≤ gI M31 162 0 ∧ gI M31 162 0 < 60) ∧ K r32 (upI (upI M31 146 (gI M31 162 0) (gI M31 163 0)) 153 (gI M31 162 0) (gI M31 164 0)))))))))) else k12_asks a1 a2 M11 (fun r36 M35 => ((0 ≤ a1 ∧ a1 < 800) ∧ ((0 ≤ a1 ∧ a1 < 60) ∧ (if a3 = 2 then K 0 (upI (upI (upI (upI (upI (upI (upI M35 162 0 a1) 163 0 (gI M35 146 a1)) 164 0 (gI M35 153 a1)) 146 a1 (gI M35 142 45)) 153 a1 (gI M35 142 46)) 146 a1 (gI M35 146 a1)) 153 a1 (gI M35 153 a1)) else (if a3 = 1 then k12_manyPass 1 (upI (upI (upI (upI (upI M35 162 0 a1) 163 0 (gI M35 146 a1)) 164 0 (gI M35 153 a1)) 146 a1 (gI M35 142 45)) 153 a1 (gI M35 142 46)) (fun r42 M41 => ((0 ≤ gI M41 162 0 ∧ gI M41 162 0 < 800) ∧ ((0 ≤ gI M41 162 0 ∧ gI M41 162 0 < 60) ∧ K r42 (upI (upI M41 146 (gI M41 162 0) (gI M41 163 0)) 153 (gI M41 162 0) (gI M41 164 0))))) else k12_manyPass 0 (upI (upI (upI (upI (upI M35 162 0 a1) 163 0 (gI M35 146 a1)) 164 0 (gI M35 153 a1)) 146 a1 (gI M35 142 45)) 153 a1 (gI M35 142 46)) (fun r46 M45 => ((0 ≤ gI M45 162 0 ∧ gI M45 162 0 < 800) ∧ ((0 ≤ gI M45 162 0 ∧ gI M45 162 0 < 60) ∧ K r46 (upI (upI M45 146 (gI M45 162 0) (gI M45 163 0)) 153 (gI M45 162 0) (gI M45 164 0))))))))))))))) else K (-200) (upI M 142 0 0))) else K (-200) (upI M 142 0 0)))) : k12_change a1 a2 a3 M K := by
  intro sc d hd
  refine fr_aload_n (pc := 0) dX12_change_0 rfl rfl ?_
  refine fr_iconst (pc := 1) dX12_change_1 (by decide) ?_
  refine fr_put (a := 142) (i := 0) (pc := 2) dX12_change_2 rfl pf_12_121 rfl s0_142 rfl rfl nf_142_0 rfl ?_
  refine fr_aload_n (pc := 5) dX12_change_5 rfl rfl ?_
  refine fr_iload_n (pc := 6) dX12_change_6 rfl rfl ?_
  refine fr_inVI (a := 142) (as := [(0, a1)]) (rest := []) (ls' := [(2, 142), (0, a1)]) (c1 := 0) (c2 := 0) (pc := 7) dX12_change_7 pl_12_305 rfl ⟨Nat.le_of_ble_eq_true rfl, Nat.le_of_ble_eq_true rfl⟩ rfl rfl rfl s0_142 (Nat.le_of_ble_eq_true rfl) (by omega) rfl rfl (pm_zc _) ?_ (fun y M' h => h)
  refine fr_iload_n (pc := 0) dX12_isNode_0 rfl rfl ?_
  refine fr_iconst (pc := 1) dX12_isNode_1 (by decide) ?_
  refine fr_aload_n (pc := 2) dX12_isNode_2 rfl rfl ?_
  refine fr_getr (a := 142) (pc := 3) dX12_isNode_3 rfl pf_12_13 s0_142 rfl rf_142_9 ?_
  refine fr_iconst (pc := 6) dX12_isNode_6 (by decide) ?_
  refine fr_iaload (a := 144) (v := gI M 144 0) (pc := 7) dX12_isNode_7 rfl s0_144 (by decide) (gI_ne _ _ _ _ (by decide)) ?_
  refine fr_iconst (pc := 8) dX12_isNode_8 (by decide) ?_
  refine fr_isub (z := w32 ((gI M 144 0) - 1)) (pc := 9) dX12_isNode_9 rfl ?_
  refine fr_inSI (as := [(0, a1), (0, 0), (0, w32 ((gI M 144 0) - 1))]) (rest := []) (ls' := [(0, a1), (0, 0), (0, w32 ((gI M 144 0) - 1))]) (c1 := 0) (c2 := 0) (pc := 10) dX12_isNode_10 pl_12_147 rfl ⟨Nat.le_of_ble_eq_true rfl, Nat.le_of_ble_eq_true rfl⟩ rfl rfl  (by omega) rfl rfl (pm_zc _) ?_ (fun y M' h => h)
  refine fr_iload_n (pc := 0) dX12_within_0 rfl rfl ?_
  refine fr_iload_n (pc := 1) dX12_within_1 rfl rfl ?_
  refine fr_icm_lt (tg := 14) (pc := 2) dX12_within_2 rfl hq (fun hc1 hq => ?_) (fun hc1 hq => ?_)
  · refine fr_iconst (pc := 14) dX12_within_14 (by decide) ?_
    refine fr_iret (pc := 15) dX12_within_15 (Or.inr (Or.inl ⟨rfl, Or.inl rfl⟩)) ?_
    refine fr_iret (pc := 13) dX12_isNode_13 (Or.inr (Or.inl ⟨rfl, Or.inl rfl⟩)) ?_
    refine fr_ifcT (tg := 31) (pc := 10) dX12_change_10 rfl rfl ?_
    refine fr_sipush (pc := 31) dX12_change_31 (by decide) ?_
    exact fr_iret (pc := 34) dX12_change_34 (Or.inl rfl) hq
  · refine fr_iload_n (pc := 5) dX12_within_5 rfl rfl ?_
    refine fr_iload_n (pc := 6) dX12_within_6 rfl rfl ?_
    refine fr_icm_gt (tg := 14) (pc := 7) dX12_within_7 rfl hq (fun hc2 hq => ?_) (fun hc2 hq => ?_)
    · refine fr_iconst (pc := 10) dX12_within_10 (by decide) ?_
      refine fr_goto (tg := 15) (pc := 11) dX12_within_11 rfl ?_
      refine fr_iret (pc := 15) dX12_within_15 (Or.inr (Or.inl ⟨rfl, Or.inr rfl⟩)) ?_
      refine fr_iret (pc := 13) dX12_isNode_13 (Or.inr (Or.inl ⟨rfl, Or.inr rfl⟩)) ?_
      refine fr_ifcF (tg := 31) (pc := 10) dX12_change_10 rfl rfl ?_
      refine fr_iload_n (pc := 13) dX12_change_13 rfl rfl ?_
      refine fr_iconst (pc := 14) dX12_change_14 (by decide) ?_
      refine fr_iconst (pc := 15) dX12_change_15 (by decide) ?_
      refine fr_inSI (as := [(0, a3), (0, 0), (0, 3)]) (rest := []) (ls' := [(0, a3), (0, 0), (0, 3)]) (c1 := 0) (c2 := 0) (pc := 16) dX12_change_16 pl_12_147 rfl ⟨Nat.le_of_ble_eq_true rfl, Nat.le_of_ble_eq_true rfl⟩ rfl rfl  (by omega) rfl rfl (pm_zc _) ?_ (fun y M' h => h)
      refine fr_iload_n (pc := 0) dX12_within_0 rfl rfl ?_
      refine fr_iload_n (pc := 1) dX12_within_1 rfl rfl ?_
      refine fr_icm_lt (tg := 14) (pc := 2) dX12_within_2 rfl hq (fun hc3 hq => ?_) (fun hc3 hq => ?_)
      · refine fr_iconst (pc := 14) dX12_within_14 (by decide) ?_
        refine fr_iret (pc := 15) dX12_within_15 (Or.inr (Or.inl ⟨rfl, Or.inl rfl⟩)) ?_
        refine fr_ifcT (tg := 31) (pc := 19) dX12_change_19 rfl rfl ?_
        refine fr_sipush (pc := 31) dX12_change_31 (by decide) ?_
        exact fr_iret (pc := 34) dX12_change_34 (Or.inl rfl) hq
      · refine fr_iload_n (pc := 5) dX12_within_5 rfl rfl ?_
        refine fr_iload_n (pc := 6) dX12_within_6 rfl rfl ?_
        refine fr_icm_gt (tg := 14) (pc := 7) dX12_within_7 rfl hq (fun hc4 hq => ?_) (fun hc4 hq => ?_)
        · refine fr_iconst (pc := 10) dX12_within_10 (by decide) ?_
          refine fr_goto (tg := 15) (pc := 11) dX12_within_11 rfl ?_
          refine fr_iret (pc := 15) dX12_within_15 (Or.inr (Or.inl ⟨rfl, Or.inr rfl⟩)) ?_
          refine fr_ifcF (tg := 31) (pc := 19) dX12_change_19 rfl rfl ?_
          refine fr_aload_n (pc := 22) dX12_change_22 rfl rfl ?_
          refine fr_iload_n (pc := 23) dX12_change_23 rfl rfl ?_
          refine fr_iload_n (pc := 24) dX12_change_24 rfl rfl ?_
          refine fr_inVI (a := 142) (as := [(0, a1), (0, a2)]) (rest := []) (ls' := [(2, 142), (0, a1), (0, a2)]) (c1 := 0) (c2 := 0) (pc := 25) dX12_change_25 pl_12_358 rfl ⟨Nat.le_of_ble_eq_true rfl, Nat.le_of_ble_eq_true rfl⟩ rfl rfl rfl s0_142 (Nat.le_of_ble_eq_true rfl) (by omega) rfl rfl (pm_zc _) (hq sc _ (by omega)) (fun r6 M5 hq => ?_)
          refine fr_ifc_ne (tg := 35) (pc := 28) dX12_change_28 rfl hq (fun hc7 hq => ?_) (fun hc7 hq => ?_)
          · refine fr_sipush (pc := 31) dX12_change_31 (by decide) ?_
            exact fr_iret (pc := 34) dX12_change_34 (Or.inl rfl) hq
          · refine fr_iload_n (pc := 35) dX12_change_35 rfl rfl ?_
            refine fr_iconst (pc := 36) dX12_change_36 (by decide) ?_
            refine fr_icm_ne (tg := 63) (pc := 37) dX12_change_37 rfl hq (fun hc8 hq => ?_) (fun hc8 hq => ?_)
            · refine fr_aload_n (pc := 40) dX12_change_40 rfl rfl ?_
              refine fr_getf (a := 142) (i := 46) (v := gI M5 142 46) (t := 0) (pc := 41) dX12_change_41 rfl pf_12_348 rfl s0_142 rfl rfl ?_
              refine fr_aload_n (pc := 44) dX12_change_44 rfl rfl ?_
              refine fr_getr (a := 142) (pc := 45) dX12_change_45 rfl pf_12_41 s0_142 rfl rf_142_23 ?_
              refine fr_iload_n (pc := 48) dX12_change_48 rfl rfl ?_
              obtain ⟨hb9, hq⟩ := hq
              refine fr_iaload (a := 153) (v := gI M5 153 a1) (pc := 49) dX12_change_49 rfl s0_153 hb9 rfl ?_
              refine fr_icm_ne (tg := 60) (pc := 50) dX12_change_50 rfl hq (fun hc10 hq => ?_) (fun hc10 hq => ?_)
              · refine fr_aload_n (pc := 53) dX12_change_53 rfl rfl ?_
                refine fr_getf (a := 142) (i := 45) (v := gI M5 142 45) (t := 0) (pc := 54) dX12_change_54 rfl pf_12_345 rfl s0_142 rfl rfl ?_
                refine fr_goto (tg := 62) (pc := 57) dX12_change_57 rfl ?_
                exact fr_iret (pc := 62) dX12_change_62 (Or.inl rfl) hq
              · refine fr_bipush (pc := 60) dX12_change_60 (by decide) ?_
                exact fr_iret (pc := 62) dX12_change_62 (Or.inl rfl) hq
            · refine fr_aload_n (pc := 63) dX12_change_63 rfl rfl ?_
              refine fr_inVI (a := 142) (as := []) (rest := []) (ls' := [(2, 142), (9, 0)]) (c1 := 0) (c2 := 0) (pc := 64) dX12_change_64 pl_12_364 rfl ⟨Nat.le_of_ble_eq_true rfl, Nat.le_of_ble_eq_true rfl⟩ rfl rfl rfl s0_142 (Nat.le_of_ble_eq_true rfl) (by omega) rfl rfl (pm_zc _) (hq sc _ (by omega)) (fun r12 M11 hq => ?_)
              refine fr_ifc_ne (tg := 74) (pc := 67) dX12_change_67 rfl hq (fun hc13 hq => ?_) (fun hc13 hq => ?_)
              · refine fr_iconst (pc := 70) dX12_change_70 (by decide) ?_
                refine fr_goto (tg := 75) (pc := 71) dX12_change_71 rfl ?_
                refine fr_istore (ls2 := [(2, 142), (0, a1), (0, a2), (0, a3), (0, 1), (9, 0), (9, 0)]) (pc := 75) dX12_change_75 rfl (Nat.le_of_ble_eq_true rfl) rfl ?_
                refine fr_aload_n (pc := 77) dX12_change_77 rfl rfl ?_
                refine fr_iload_n (pc := 78) dX12_change_78 rfl rfl ?_
                refine fr_iload_n (pc := 79) dX12_change_79 rfl rfl ?_
                refine fr_inVI (a := 142) (as := [(0, a1), (0, a2)]) (rest := []) (ls' := [(2, 142), (0, a1), (0, a2)]) (c1 := 0) (c2 := 0) (pc := 80) dX12_change_80 pl_12_358 rfl ⟨Nat.le_of_ble_eq_true rfl, Nat.le_of_ble_eq_true rfl⟩ rfl rfl rfl s0_142 (Nat.le_of_ble_eq_true rfl) (by omega) rfl rfl (pm_zc _) (hq sc _ (by omega)) (fun r15 M14 hq => ?_)
                refine fr_istore (ls2 := [(2, 142), (0, a1), (0, a2), (0, a3), (0, 1), (0, r15), (9, 0)]) (pc := 83) dX12_change_83 rfl (Nat.le_of_ble_eq_true rfl) rfl ?_
                refine fr_aload_n (pc := 85) dX12_change_85 rfl rfl ?_
                refine fr_iconst (pc := 86) dX12_change_86 (by decide) ?_
                refine fr_iload_n (pc := 87) dX12_change_87 rfl rfl ?_
                refine fr_aload_n (pc := 88) dX12_change_88 rfl rfl ?_
                refine fr_getf (a := 142) (i := 45) (v := gI M14 142 45) (t := 0) (pc := 89) dX12_change_89 rfl pf_12_345 rfl s0_142 rfl rfl ?_
                refine fr_aload_n (pc := 92) dX12_change_92 rfl rfl ?_
                refine fr_getf (a := 142) (i := 46) (v := gI M14 142 46) (t := 0) (pc := 93) dX12_change_93 rfl pf_12_348 rfl s0_142 rfl rfl ?_
                refine fr_inVV (a := 142) (as := [(0, 0), (0, a1), (0, gI M14 142 45), (0, gI M14 142 46)]) (rest := []) (ls' := [(2, 142), (0, 0), (0, a1), (0, gI M14 142 45), (0, gI M14 142 46)]) (c1 := 0) (c2 := 0) (pc := 96) dX12_change_96 pl_12_367 rfl ⟨Nat.le_of_ble_eq_true rfl, Nat.le_of_ble_eq_true rfl⟩ rfl rfl rfl s0_142 (Nat.le_of_ble_eq_true rfl) (by omega) rfl rfl (pm_zc _) ?_ (fun M' h => h)
                refine fr_aload_n (pc := 0) dX12_puts__0 rfl rfl ?_
                refine fr_getr (a := 142) (pc := 1) dX12_puts__1 rfl pf_12_75 s0_142 rfl rf_142_47 ?_
                refine fr_iload_n (pc := 4) dX12_puts__4 rfl rfl ?_
                refine fr_iload_n (pc := 5) dX12_puts__5 rfl rfl ?_
                refine fr_iastore (a := 162) (pc := 6) dX12_puts__6 rfl s0_162 (by decide) nr_162 ?_
                refine fr_aload_n (pc := 7) dX12_puts__7 rfl rfl ?_
                refine fr_getr (a := 142) (pc := 8) dX12_puts__8 rfl pf_12_78 s0_142 rfl rf_142_48 ?_
                refine fr_iload_n (pc := 11) dX12_puts__11 rfl rfl ?_
                refine fr_aload_n (pc := 12) dX12_puts__12 rfl rfl ?_
                refine fr_getr (a := 142) (pc := 13) dX12_puts__13 rfl pf_12_20 s0_142 rfl rf_142_11 ?_
                refine fr_iload_n (pc := 16) dX12_puts__16 rfl rfl ?_
                obtain ⟨hb16, hq⟩ := hq
                refine fr_iaload (a := 146) (v := gI M14 146 a1) (pc := 17) dX12_puts__17 rfl s0_146 hb16 (gI_ne _ _ _ _ (by decide)) ?_
                refine fr_iastore (a := 163) (pc := 18) dX12_puts__18 rfl s0_163 (by decide) nr_163 ?_
                refine fr_aload_n (pc := 19) dX12_puts__19 rfl rfl ?_
                refine fr_getr (a := 142) (pc := 20) dX12_puts__20 rfl pf_12_81 s0_142 rfl rf_142_49 ?_
                refine fr_iload_n (pc := 23) dX12_puts__23 rfl rfl ?_
                refine fr_aload_n (pc := 24) dX12_puts__24 rfl rfl ?_
                refine fr_getr (a := 142) (pc := 25) dX12_puts__25 rfl pf_12_41 s0_142 rfl rf_142_23 ?_
                refine fr_iload_n (pc := 28) dX12_puts__28 rfl rfl ?_
                obtain ⟨hb17, hq⟩ := hq
                refine fr_iaload (a := 153) (v := gI M14 153 a1) (pc := 29) dX12_puts__29 rfl s0_153 hb17 ((gI_ne _ _ _ _ (by decide)).trans (gI_ne _ _ _ _ (by decide))) ?_
                refine fr_iastore (a := 164) (pc := 30) dX12_puts__30 rfl s0_164 (by decide) nr_164 ?_
                refine fr_aload_n (pc := 31) dX12_puts__31 rfl rfl ?_
                refine fr_getr (a := 142) (pc := 32) dX12_puts__32 rfl pf_12_20 s0_142 rfl rf_142_11 ?_
                refine fr_iload_n (pc := 35) dX12_puts__35 rfl rfl ?_
                refine fr_iload_n (pc := 36) dX12_puts__36 rfl rfl ?_
                refine fr_iastore (a := 146) (pc := 37) dX12_puts__37 rfl s0_146 ⟨hb17.1, by omega⟩ nr_146 ?_
                refine fr_aload_n (pc := 38) dX12_puts__38 rfl rfl ?_
                refine fr_getr (a := 142) (pc := 39) dX12_puts__39 rfl pf_12_41 s0_142 rfl rf_142_23 ?_
                refine fr_iload_n (pc := 42) dX12_puts__42 rfl rfl ?_
                refine fr_iload (pc := 43) dX12_puts__43 rfl rfl ?_
                refine fr_iastore (a := 153) (pc := 45) dX12_puts__45 rfl s0_153 hb17 nr_153 ?_
                refine fr_vret (pc := 46) dX12_puts__46 rfl ?_
                refine fr_iload_n (pc := 99) dX12_change_99 rfl rfl ?_
                refine fr_iconst (pc := 100) dX12_change_100 (by decide) ?_
                refine fr_icm_ne (tg := 124) (pc := 101) dX12_change_101 rfl hq (fun hc18 hq => ?_) (fun hc18 hq => ?_)
                · refine fr_iload (pc := 104) dX12_change_104 rfl rfl ?_
                  refine fr_ifcF (tg := 120) (pc := 106) dX12_change_106 rfl rfl ?_
                  refine fr_aload_n (pc := 109) dX12_change_109 rfl rfl ?_
                  refine fr_inVI (a := 142) (as := []) (rest := []) (ls' := [(2, 142), (9, 0)]) (c1 := 0) (c2 := 0) (pc := 110) dX12_change_110 pl_12_364 rfl ⟨Nat.le_of_ble_eq_true rfl, Nat.le_of_ble_eq_true rfl⟩ rfl rfl rfl s0_142 (Nat.le_of_ble_eq_true rfl) (by omega) rfl rfl (pm_zc _) (hq sc _ (by omega)) (fun r20 M19 hq => ?_)
                  refine fr_ifc_eq (tg := 120) (pc := 113) dX12_change_113 rfl hq (fun hc21 hq => ?_) (fun hc21 hq => ?_)
                  · refine fr_iconst (pc := 120) dX12_change_120 (by decide) ?_
                    refine fr_goto (tg := 138) (pc := 121) dX12_change_121 rfl ?_
                    refine fr_istore (ls2 := [(2, 142), (0, a1), (0, a2), (0, a3), (0, 1), (0, r15), (0, 0)]) (pc := 138) dX12_change_138 rfl (Nat.le_of_ble_eq_true rfl) rfl ?_
                    refine fr_aload_n (pc := 140) dX12_change_140 rfl rfl ?_
                    refine fr_iconst (pc := 141) dX12_change_141 (by decide) ?_
                    refine fr_inVV (a := 142) (as := [(0, 0)]) (rest := []) (ls' := [(2, 142), (0, 0)]) (c1 := 0) (c2 := 0) (pc := 142) dX12_change_142 pl_12_374 rfl ⟨Nat.le_of_ble_eq_true rfl, Nat.le_of_ble_eq_true rfl⟩ rfl rfl rfl s0_142 (Nat.le_of_ble_eq_true rfl) (by omega) rfl rfl (pm_zc _) ?_ (fun M' h => h)
                    refine fr_aload_n (pc := 0) dX12_takesOut_0 rfl rfl ?_
                    refine fr_getr (a := 142) (pc := 1) dX12_takesOut_1 rfl pf_12_20 s0_142 rfl rf_142_11 ?_
                    refine fr_aload_n (pc := 4) dX12_takesOut_4 rfl rfl ?_
                    refine fr_getr (a := 142) (pc := 5) dX12_takesOut_5 rfl pf_12_75 s0_142 rfl rf_142_47 ?_
                    refine fr_iload_n (pc := 8) dX12_takesOut_8 rfl rfl ?_
                    refine fr_iaload (a := 162) (v := gI M19 162 0) (pc := 9) dX12_takesOut_9 rfl s0_162 (by decide) rfl ?_
                    refine fr_aload_n (pc := 10) dX12_takesOut_10 rfl rfl ?_
                    refine fr_getr (a := 142) (pc := 11) dX12_takesOut_11 rfl pf_12_78 s0_142 rfl rf_142_48 ?_
                    refine fr_iload_n (pc := 14) dX12_takesOut_14 rfl rfl ?_
                    refine fr_iaload (a := 163) (v := gI M19 163 0) (pc := 15) dX12_takesOut_15 rfl s0_163 (by decide) rfl ?_
                    obtain ⟨hb22, hq⟩ := hq
                    refine fr_iastore (a := 146) (pc := 16) dX12_takesOut_16 rfl s0_146 hb22 nr_146 ?_
                    refine fr_aload_n (pc := 17) dX12_takesOut_17 rfl rfl ?_
                    refine fr_getr (a := 142) (pc := 18) dX12_takesOut_18 rfl pf_12_41 s0_142 rfl rf_142_23 ?_
                    refine fr_aload_n (pc := 21) dX12_takesOut_21 rfl rfl ?_
                    refine fr_getr (a := 142) (pc := 22) dX12_takesOut_22 rfl pf_12_75 s0_142 rfl rf_142_47 ?_
                    refine fr_iload_n (pc := 25) dX12_takesOut_25 rfl rfl ?_
                    refine fr_iaload (a := 162) (v := gI M19 162 0) (pc := 26) dX12_takesOut_26 rfl s0_162 (by decide) (gI_ne _ _ _ _ (by decide)) ?_
                    refine fr_aload_n (pc := 27) dX12_takesOut_27 rfl rfl ?_
                    refine fr_getr (a := 142) (pc := 28) dX12_takesOut_28 rfl pf_12_81 s0_142 rfl rf_142_49 ?_
                    refine fr_iload_n (pc := 31) dX12_takesOut_31 rfl rfl ?_
                    refine fr_iaload (a := 164) (v := gI M19 164 0) (pc := 32) dX12_takesOut_32 rfl s0_164 (by decide) (gI_ne _ _ _ _ (by decide)) ?_
                    obtain ⟨hb23, hq⟩ := hq
                    refine fr_iastore (a := 153) (pc := 33) dX12_takesOut_33 rfl s0_153 hb23 nr_153 ?_
                    refine fr_vret (pc := 34) dX12_takesOut_34 rfl ?_
                    refine fr_iload (pc := 145) dX12_change_145 rfl rfl ?_
                    exact fr_iret (pc := 147) dX12_change_147 (Or.inl rfl) hq
                  · refine fr_iconst (pc := 116) dX12_change_116 (by decide) ?_
                    refine fr_goto (tg := 138) (pc := 117) dX12_change_117 rfl ?_
                    refine fr_istore (ls2 := [(2, 142), (0, a1), (0, a2), (0, a3), (0, 1), (0, r15), (0, 1)]) (pc := 138) dX12_change_138 rfl (Nat.le_of_ble_eq_true rfl) rfl ?_
                    refine fr_aload_n (pc := 140) dX12_change_140 rfl rfl ?_
                    refine fr_iconst (pc := 141) dX12_change_141 (by decide) ?_
                    refine fr_inVV (a := 142) (as := [(0, 0)]) (rest := []) (ls' := [(2, 142), (0, 0)]) (c1 := 0) (c2 := 0) (pc := 142) dX12_change_142 pl_12_374 rfl ⟨Nat.le_of_ble_eq_true rfl, Nat.le_of_ble_eq_true rfl⟩ rfl rfl rfl s0_142 (Nat.le_of_ble_eq_true rfl) (by omega) rfl rfl (pm_zc _) ?_ (fun M' h => h)
                    refine fr_aload_n (pc := 0) dX12_takesOut_0 rfl rfl ?_
                    refine fr_getr (a := 142) (pc := 1) dX12_takesOut_1 rfl pf_12_20 s0_142 rfl rf_142_11 ?_
                    refine fr_aload_n (pc := 4) dX12_takesOut_4 rfl rfl ?_
                    refine fr_getr (a := 142) (pc := 5) dX12_takesOut_5 rfl pf_12_75 s0_142 rfl rf_142_47 ?_
                    refine fr_iload_n (pc := 8) dX12_takesOut_8 rfl rfl ?_
                    refine fr_iaload (a := 162) (v := gI M19 162 0) (pc := 9) dX12_takesOut_9 rfl s0_162 (by decide) rfl ?_
                    refine fr_aload_n (pc := 10) dX12_takesOut_10 rfl rfl ?_
                    refine fr_getr (a := 142) (pc := 11) dX12_takesOut_11 rfl pf_12_78 s0_142 rfl rf_142_48 ?_
                    refine fr_iload_n (pc := 14) dX12_takesOut_14 rfl rfl ?_
                    refine fr_iaload (a := 163) (v := gI M19 163 0) (pc := 15) dX12_takesOut_15 rfl s0_163 (by decide) rfl ?_
                    obtain ⟨hb24, hq⟩ := hq
                    refine fr_iastore (a := 146) (pc := 16) dX12_takesOut_16 rfl s0_146 hb24 nr_146 ?_
                    refine fr_aload_n (pc := 17) dX12_takesOut_17 rfl rfl ?_
                    refine fr_getr (a := 142) (pc := 18) dX12_takesOut_18 rfl pf_12_41 s0_142 rfl rf_142_23 ?_
                    refine fr_aload_n (pc := 21) dX12_takesOut_21 rfl rfl ?_
                    refine fr_getr (a := 142) (pc := 22) dX12_takesOut_22 rfl pf_12_75 s0_142 rfl rf_142_47 ?_
                    refine fr_iload_n (pc := 25) dX12_takesOut_25 rfl rfl ?_
                    refine fr_iaload (a := 162) (v := gI M19 162 0) (pc := 26) dX12_takesOut_26 rfl s0_162 (by decide) (gI_ne _ _ _ _ (by decide)) ?_
                    refine fr_aload_n (pc := 27) dX12_takesOut_27 rfl rfl ?_
                    refine fr_getr (a := 142) (pc := 28) dX12_takesOut_28 rfl pf_12_81 s0_142 rfl rf_142_49 ?_
                    refine fr_iload_n (pc := 31) dX12_takesOut_31 rfl rfl ?_
                    refine fr_iaload (a := 164) (v := gI M19 164 0) (pc := 32) dX12_takesOut_32 rfl s0_164 (by decide) (gI_ne _ _ _ _ (by decide)) ?_
                    obtain ⟨hb25, hq⟩ := hq
                    refine fr_iastore (a := 153) (pc := 33) dX12_takesOut_33 rfl s0_153 hb25 nr_153 ?_
                    refine fr_vret (pc := 34) dX12_takesOut_34 rfl ?_
                    refine fr_iload (pc := 145) dX12_change_145 rfl rfl ?_
                    exact fr_iret (pc := 147) dX12_change_147 (Or.inl rfl) hq
                · refine fr_aload_n (pc := 124) dX12_change_124 rfl rfl ?_
                  refine fr_iload_n (pc := 125) dX12_change_125 rfl rfl ?_
                  refine fr_iconst (pc := 126) dX12_change_126 (by decide) ?_
                  refine fr_icm_ne (tg := 134) (pc := 127) dX12_change_127 rfl hq (fun hc26 hq => ?_) (fun hc26 hq => ?_)
                  · refine fr_iconst (pc := 130) dX12_change_130 (by decide) ?_
                    refine fr_goto (tg := 135) (pc := 131) dX12_change_131 rfl ?_
                    refine fr_inVI (a := 142) (as := [(0, 1)]) (rest := []) (ls' := [(2, 142), (0, 1), (9, 0), (9, 0)]) (c1 := 0) (c2 := 0) (pc := 135) dX12_change_135 pl_12_370 rfl ⟨Nat.le_of_ble_eq_true rfl, Nat.le_of_ble_eq_true rfl⟩ rfl rfl rfl s0_142 (Nat.le_of_ble_eq_true rfl) (by omega) rfl rfl (pm_zc _) (hq sc _ (by omega)) (fun r28 M27 hq => ?_)
                    refine fr_istore (ls2 := [(2, 142), (0, a1), (0, a2), (0, a3), (0, 1), (0, r15), (0, r28)]) (pc := 138) dX12_change_138 rfl (Nat.le_of_ble_eq_true rfl) rfl ?_
                    refine fr_aload_n (pc := 140) dX12_change_140 rfl rfl ?_
                    refine fr_iconst (pc := 141) dX12_change_141 (by decide) ?_
                    refine fr_inVV (a := 142) (as := [(0, 0)]) (rest := []) (ls' := [(2, 142), (0, 0)]) (c1 := 0) (c2 := 0) (pc := 142) dX12_change_142 pl_12_374 rfl ⟨Nat.le_of_ble_eq_true rfl, Nat.le_of_ble_eq_true rfl⟩ rfl rfl rfl s0_142 (Nat.le_of_ble_eq_true rfl) (by omega) rfl rfl (pm_zc _) ?_ (fun M' h => h)
                    refine fr_aload_n (pc := 0) dX12_takesOut_0 rfl rfl ?_
                    refine fr_getr (a := 142) (pc := 1) dX12_takesOut_1 rfl pf_12_20 s0_142 rfl rf_142_11 ?_
                    refine fr_aload_n (pc := 4) dX12_takesOut_4 rfl rfl ?_
                    refine fr_getr (a := 142) (pc := 5) dX12_takesOut_5 rfl pf_12_75 s0_142 rfl rf_142_47 ?_
                    refine fr_iload_n (pc := 8) dX12_takesOut_8 rfl rfl ?_
                    refine fr_iaload (a := 162) (v := gI M27 162 0) (pc := 9) dX12_takesOut_9 rfl s0_162 (by decide) rfl ?_
                    refine fr_aload_n (pc := 10) dX12_takesOut_10 rfl rfl ?_
                    refine fr_getr (a := 142) (pc := 11) dX12_takesOut_11 rfl pf_12_78 s0_142 rfl rf_142_48 ?_
                    refine fr_iload_n (pc := 14) dX12_takesOut_14 rfl rfl ?_
                    refine fr_iaload (a := 163) (v := gI M27 163 0) (pc := 15) dX12_takesOut_15 rfl s0_163 (by decide) rfl ?_
                    obtain ⟨hb29, hq⟩ := hq
                    refine fr_iastore (a := 146) (pc := 16) dX12_takesOut_16 rfl s0_146 hb29 nr_146 ?_
                    refine fr_aload_n (pc := 17) dX12_takesOut_17 rfl rfl ?_
                    refine fr_getr (a := 142) (pc := 18) dX12_takesOut_18 rfl pf_12_41 s0_142 rfl rf_142_23 ?_
                    refine fr_aload_n (pc := 21) dX12_takesOut_21 rfl rfl ?_
                    refine fr_getr (a := 142) (pc := 22) dX12_takesOut_22 rfl pf_12_75 s0_142 rfl rf_142_47 ?_
                    refine fr_iload_n (pc := 25) dX12_takesOut_25 rfl rfl ?_
                    refine fr_iaload (a := 162) (v := gI M27 162 0) (pc := 26) dX12_takesOut_26 rfl s0_162 (by decide) (gI_ne _ _ _ _ (by decide)) ?_
                    refine fr_aload_n (pc := 27) dX12_takesOut_27 rfl rfl ?_
                    refine fr_getr (a := 142) (pc := 28) dX12_takesOut_28 rfl pf_12_81 s0_142 rfl rf_142_49 ?_
                    refine fr_iload_n (pc := 31) dX12_takesOut_31 rfl rfl ?_
                    refine fr_iaload (a := 164) (v := gI M27 164 0) (pc := 32) dX12_takesOut_32 rfl s0_164 (by decide) (gI_ne _ _ _ _ (by decide)) ?_
                    obtain ⟨hb30, hq⟩ := hq
                    refine fr_iastore (a := 153) (pc := 33) dX12_takesOut_33 rfl s0_153 hb30 nr_153 ?_
                    refine fr_vret (pc := 34) dX12_takesOut_34 rfl ?_
                    refine fr_iload (pc := 145) dX12_change_145 rfl rfl ?_
                    exact fr_iret (pc := 147) dX12_change_147 (Or.inl rfl) hq
                  · refine fr_iconst (pc := 134) dX12_change_134 (by decide) ?_
                    refine fr_inVI (a := 142) (as := [(0, 0)]) (rest := []) (ls' := [(2, 142), (0, 0), (9, 0), (9, 0)]) (c1 := 0) (c2 := 0) (pc := 135) dX12_change_135 pl_12_370 rfl ⟨Nat.le_of_ble_eq_true rfl, Nat.le_of_ble_eq_true rfl⟩ rfl rfl rfl s0_142 (Nat.le_of_ble_eq_true rfl) (by omega) rfl rfl (pm_zc _) (hq sc _ (by omega)) (fun r32 M31 hq => ?_)
                    refine fr_istore (ls2 := [(2, 142), (0, a1), (0, a2), (0, a3), (0, 1), (0, r15), (0, r32)]) (pc := 138) dX12_change_138 rfl (Nat.le_of_ble_eq_true rfl) rfl ?_
                    refine fr_aload_n (pc := 140) dX12_change_140 rfl rfl ?_
                    refine fr_iconst (pc := 141) dX12_change_141 (by decide) ?_
                    refine fr_inVV (a := 142) (as := [(0, 0)]) (rest := []) (ls' := [(2, 142), (0, 0)]) (c1 := 0) (c2 := 0) (pc := 142) dX12_change_142 pl_12_374 rfl ⟨Nat.le_of_ble_eq_true rfl, Nat.le_of_ble_eq_true rfl⟩ rfl rfl rfl s0_142 (Nat.le_of_ble_eq_true rfl) (by omega) rfl rfl (pm_zc _) ?_ (fun M' h => h)
                    refine fr_aload_n (pc := 0) dX12_takesOut_0 rfl rfl ?_
                    refine fr_getr (a := 142) (pc := 1) dX12_takesOut_1 rfl pf_12_20 s0_142 rfl rf_142_11 ?_
                    refine fr_aload_n (pc := 4) dX12_takesOut_4 rfl rfl ?_
                    refine fr_getr (a := 142) (pc := 5) dX12_takesOut_5 rfl pf_12_75 s0_142 rfl rf_142_47 ?_
                    refine fr_iload_n (pc := 8) dX12_takesOut_8 rfl rfl ?_
                    refine fr_iaload (a := 162) (v := gI M31 162 0) (pc := 9) dX12_takesOut_9 rfl s0_162 (by decide) rfl ?_
                    refine fr_aload_n (pc := 10) dX12_takesOut_10 rfl rfl ?_
                    refine fr_getr (a := 142) (pc := 11) dX12_takesOut_11 rfl pf_12_78 s0_142 rfl rf_142_48 ?_
                    refine fr_iload_n (pc := 14) dX12_takesOut_14 rfl rfl ?_
                    refine fr_iaload (a := 163) (v := gI M31 163 0) (pc := 15) dX12_takesOut_15 rfl s0_163 (by decide) rfl ?_
                    obtain ⟨hb33, hq⟩ := hq
                    refine fr_iastore (a := 146) (pc := 16) dX12_takesOut_16 rfl s0_146 hb33 nr_146 ?_
                    refine fr_aload_n (pc := 17) dX12_takesOut_17 rfl rfl ?_
                    refine fr_getr (a := 142) (pc := 18) dX12_takesOut_18 rfl pf_12_41 s0_142 rfl rf_142_23 ?_
                    refine fr_aload_n (pc := 21) dX12_takesOut_21 rfl rfl ?_
                    refine fr_getr (a := 142) (pc := 22) dX12_takesOut_22 rfl pf_12_75 s0_142 rfl rf_142_47 ?_
                    refine fr_iload_n (pc := 25) dX12_takesOut_25 rfl rfl ?_
                    refine fr_iaload (a := 162) (v := gI M31 162 0) (pc := 26) dX12_takesOut_26 rfl s0_162 (by decide) (gI_ne _ _ _ _ (by decide)) ?_
                    refine fr_aload_n (pc := 27) dX12_takesOut_27 rfl rfl ?_
                    refine fr_getr (a := 142) (pc := 28) dX12_takesOut_28 rfl pf_12_81 s0_142 rfl rf_142_49 ?_
                    refine fr_iload_n (pc := 31) dX12_takesOut_31 rfl rfl ?_
                    refine fr_iaload (a := 164) (v := gI M31 164 0) (pc := 32) dX12_takesOut_32 rfl s0_164 (by decide) (gI_ne _ _ _ _ (by decide)) ?_
                    obtain ⟨hb34, hq⟩ := hq
                    refine fr_iastore (a := 153) (pc := 33) dX12_takesOut_33 rfl s0_153 hb34 nr_153 ?_
                    refine fr_vret (pc := 34) dX12_takesOut_34 rfl ?_
                    refine fr_iload (pc := 145) dX12_change_145 rfl rfl ?_
                    exact fr_iret (pc := 147) dX12_change_147 (Or.inl rfl) hq
              · refine fr_iconst (pc := 74) dX12_change_74 (by decide) ?_
                refine fr_istore (ls2 := [(2, 142), (0, a1), (0, a2), (0, a3), (0, 0), (9, 0), (9, 0)]) (pc := 75) dX12_change_75 rfl (Nat.le_of_ble_eq_true rfl) rfl ?_
                refine fr_aload_n (pc := 77) dX12_change_77 rfl rfl ?_
                refine fr_iload_n (pc := 78) dX12_change_78 rfl rfl ?_
                refine fr_iload_n (pc := 79) dX12_change_79 rfl rfl ?_
                refine fr_inVI (a := 142) (as := [(0, a1), (0, a2)]) (rest := []) (ls' := [(2, 142), (0, a1), (0, a2)]) (c1 := 0) (c2 := 0) (pc := 80) dX12_change_80 pl_12_358 rfl ⟨Nat.le_of_ble_eq_true rfl, Nat.le_of_ble_eq_true rfl⟩ rfl rfl rfl s0_142 (Nat.le_of_ble_eq_true rfl) (by omega) rfl rfl (pm_zc _) (hq sc _ (by omega)) (fun r36 M35 hq => ?_)
                refine fr_istore (ls2 := [(2, 142), (0, a1), (0, a2), (0, a3), (0, 0), (0, r36), (9, 0)]) (pc := 83) dX12_change_83 rfl (Nat.le_of_ble_eq_true rfl) rfl ?_
                refine fr_aload_n (pc := 85) dX12_change_85 rfl rfl ?_
                refine fr_iconst (pc := 86) dX12_change_86 (by decide) ?_
                refine fr_iload_n (pc := 87) dX12_change_87 rfl rfl ?_
                refine fr_aload_n (pc := 88) dX12_change_88 rfl rfl ?_
                refine fr_getf (a := 142) (i := 45) (v := gI M35 142 45) (t := 0) (pc := 89) dX12_change_89 rfl pf_12_345 rfl s0_142 rfl rfl ?_
                refine fr_aload_n (pc := 92) dX12_change_92 rfl rfl ?_
                refine fr_getf (a := 142) (i := 46) (v := gI M35 142 46) (t := 0) (pc := 93) dX12_change_93 rfl pf_12_348 rfl s0_142 rfl rfl ?_
                refine fr_inVV (a := 142) (as := [(0, 0), (0, a1), (0, gI M35 142 45), (0, gI M35 142 46)]) (rest := []) (ls' := [(2, 142), (0, 0), (0, a1), (0, gI M35 142 45), (0, gI M35 142 46)]) (c1 := 0) (c2 := 0) (pc := 96) dX12_change_96 pl_12_367 rfl ⟨Nat.le_of_ble_eq_true rfl, Nat.le_of_ble_eq_true rfl⟩ rfl rfl rfl s0_142 (Nat.le_of_ble_eq_true rfl) (by omega) rfl rfl (pm_zc _) ?_ (fun M' h => h)
                refine fr_aload_n (pc := 0) dX12_puts__0 rfl rfl ?_
                refine fr_getr (a := 142) (pc := 1) dX12_puts__1 rfl pf_12_75 s0_142 rfl rf_142_47 ?_
                refine fr_iload_n (pc := 4) dX12_puts__4 rfl rfl ?_
                refine fr_iload_n (pc := 5) dX12_puts__5 rfl rfl ?_
                refine fr_iastore (a := 162) (pc := 6) dX12_puts__6 rfl s0_162 (by decide) nr_162 ?_
                refine fr_aload_n (pc := 7) dX12_puts__7 rfl rfl ?_
                refine fr_getr (a := 142) (pc := 8) dX12_puts__8 rfl pf_12_78 s0_142 rfl rf_142_48 ?_
                refine fr_iload_n (pc := 11) dX12_puts__11 rfl rfl ?_
                refine fr_aload_n (pc := 12) dX12_puts__12 rfl rfl ?_
                refine fr_getr (a := 142) (pc := 13) dX12_puts__13 rfl pf_12_20 s0_142 rfl rf_142_11 ?_
                refine fr_iload_n (pc := 16) dX12_puts__16 rfl rfl ?_
                obtain ⟨hb37, hq⟩ := hq
                refine fr_iaload (a := 146) (v := gI M35 146 a1) (pc := 17) dX12_puts__17 rfl s0_146 hb37 (gI_ne _ _ _ _ (by decide)) ?_
                refine fr_iastore (a := 163) (pc := 18) dX12_puts__18 rfl s0_163 (by decide) nr_163 ?_
                refine fr_aload_n (pc := 19) dX12_puts__19 rfl rfl ?_
                refine fr_getr (a := 142) (pc := 20) dX12_puts__20 rfl pf_12_81 s0_142 rfl rf_142_49 ?_
                refine fr_iload_n (pc := 23) dX12_puts__23 rfl rfl ?_
                refine fr_aload_n (pc := 24) dX12_puts__24 rfl rfl ?_
                refine fr_getr (a := 142) (pc := 25) dX12_puts__25 rfl pf_12_41 s0_142 rfl rf_142_23 ?_
                refine fr_iload_n (pc := 28) dX12_puts__28 rfl rfl ?_
                obtain ⟨hb38, hq⟩ := hq
                refine fr_iaload (a := 153) (v := gI M35 153 a1) (pc := 29) dX12_puts__29 rfl s0_153 hb38 ((gI_ne _ _ _ _ (by decide)).trans (gI_ne _ _ _ _ (by decide))) ?_
                refine fr_iastore (a := 164) (pc := 30) dX12_puts__30 rfl s0_164 (by decide) nr_164 ?_
                refine fr_aload_n (pc := 31) dX12_puts__31 rfl rfl ?_
                refine fr_getr (a := 142) (pc := 32) dX12_puts__32 rfl pf_12_20 s0_142 rfl rf_142_11 ?_
                refine fr_iload_n (pc := 35) dX12_puts__35 rfl rfl ?_
                refine fr_iload_n (pc := 36) dX12_puts__36 rfl rfl ?_
                refine fr_iastore (a := 146) (pc := 37) dX12_puts__37 rfl s0_146 ⟨hb38.1, by omega⟩ nr_146 ?_
                refine fr_aload_n (pc := 38) dX12_puts__38 rfl rfl ?_
                refine fr_getr (a := 142) (pc := 39) dX12_puts__39 rfl pf_12_41 s0_142 rfl rf_142_23 ?_
                refine fr_iload_n (pc := 42) dX12_puts__42 rfl rfl ?_
                refine fr_iload (pc := 43) dX12_puts__43 rfl rfl ?_
                refine fr_iastore (a := 153) (pc := 45) dX12_puts__45 rfl s0_153 hb38 nr_153 ?_
                refine fr_vret (pc := 46) dX12_puts__46 rfl ?_
                refine fr_iload_n (pc := 99) dX12_change_99 rfl rfl ?_
                refine fr_iconst (pc := 100) dX12_change_100 (by decide) ?_
                refine fr_icm_ne (tg := 124) (pc := 101) dX12_change_101 rfl hq (fun hc39 hq => ?_) (fun hc39 hq => ?_)
                · refine fr_iload (pc := 104) dX12_change_104 rfl rfl ?_
                  refine fr_ifcT (tg := 120) (pc := 106) dX12_change_106 rfl rfl ?_
                  refine fr_iconst (pc := 120) dX12_change_120 (by decide) ?_
                  refine fr_goto (tg := 138) (pc := 121) dX12_change_121 rfl ?_
                  refine fr_istore (ls2 := [(2, 142), (0, a1), (0, a2), (0, a3), (0, 0), (0, r36), (0, 0)]) (pc := 138) dX12_change_138 rfl (Nat.le_of_ble_eq_true rfl) rfl ?_
                  refine fr_aload_n (pc := 140) dX12_change_140 rfl rfl ?_
                  refine fr_iconst (pc := 141) dX12_change_141 (by decide) ?_
                  refine fr_inVV (a := 142) (as := [(0, 0)]) (rest := []) (ls' := [(2, 142), (0, 0)]) (c1 := 0) (c2 := 0) (pc := 142) dX12_change_142 pl_12_374 rfl ⟨Nat.le_of_ble_eq_true rfl, Nat.le_of_ble_eq_true rfl⟩ rfl rfl rfl s0_142 (Nat.le_of_ble_eq_true rfl) (by omega) rfl rfl (pm_zc _) ?_ (fun M' h => h)
                  refine fr_aload_n (pc := 0) dX12_takesOut_0 rfl rfl ?_
                  refine fr_getr (a := 142) (pc := 1) dX12_takesOut_1 rfl pf_12_20 s0_142 rfl rf_142_11 ?_
                  refine fr_aload_n (pc := 4) dX12_takesOut_4 rfl rfl ?_
                  refine fr_getr (a := 142) (pc := 5) dX12_takesOut_5 rfl pf_12_75 s0_142 rfl rf_142_47 ?_
                  refine fr_iload_n (pc := 8) dX12_takesOut_8 rfl rfl ?_
                  refine fr_iaload (a := 162) (v := a1) (pc := 9) dX12_takesOut_9 rfl s0_162 (by decide) ((gI_ne _ _ _ _ (by decide)).trans ((gI_ne _ _ _ _ (by decide)).trans ((gI_ne _ _ _ _ (by decide)).trans ((gI_ne _ _ _ _ (by decide)).trans (gI_eq _ _ _ _))))) ?_
                  refine fr_aload_n (pc := 10) dX12_takesOut_10 rfl rfl ?_
                  refine fr_getr (a := 142) (pc := 11) dX12_takesOut_11 rfl pf_12_78 s0_142 rfl rf_142_48 ?_
                  refine fr_iload_n (pc := 14) dX12_takesOut_14 rfl rfl ?_
                  refine fr_iaload (a := 163) (v := gI M35 146 a1) (pc := 15) dX12_takesOut_15 rfl s0_163 (by decide) ((gI_ne _ _ _ _ (by decide)).trans ((gI_ne _ _ _ _ (by decide)).trans ((gI_ne _ _ _ _ (by decide)).trans (gI_eq _ _ _ _)))) ?_
                  refine fr_iastore (a := 146) (pc := 16) dX12_takesOut_16 rfl s0_146 ⟨hb38.1, by omega⟩ nr_146 ?_
                  refine fr_aload_n (pc := 17) dX12_takesOut_17 rfl rfl ?_
                  refine fr_getr (a := 142) (pc := 18) dX12_takesOut_18 rfl pf_12_41 s0_142 rfl rf_142_23 ?_
                  refine fr_aload_n (pc := 21) dX12_takesOut_21 rfl rfl ?_
                  refine fr_getr (a := 142) (pc := 22) dX12_takesOut_22 rfl pf_12_75 s0_142 rfl rf_142_47 ?_
                  refine fr_iload_n (pc := 25) dX12_takesOut_25 rfl rfl ?_
                  refine fr_iaload (a := 162) (v := a1) (pc := 26) dX12_takesOut_26 rfl s0_162 (by decide) ((gI_ne _ _ _ _ (by decide)).trans ((gI_ne _ _ _ _ (by decide)).trans ((gI_ne _ _ _ _ (by decide)).trans ((gI_ne _ _ _ _ (by decide)).trans ((gI_ne _ _ _ _ (by decide)).trans (gI_eq _ _ _ _)))))) ?_
                  refine fr_aload_n (pc := 27) dX12_takesOut_27 rfl rfl ?_
                  refine fr_getr (a := 142) (pc := 28) dX12_takesOut_28 rfl pf_12_81 s0_142 rfl rf_142_49 ?_
                  refine fr_iload_n (pc := 31) dX12_takesOut_31 rfl rfl ?_
                  refine fr_iaload (a := 164) (v := gI M35 153 a1) (pc := 32) dX12_takesOut_32 rfl s0_164 (by decide) ((gI_ne _ _ _ _ (by decide)).trans ((gI_ne _ _ _ _ (by decide)).trans ((gI_ne _ _ _ _ (by decide)).trans (gI_eq _ _ _ _)))) ?_
                  refine fr_iastore (a := 153) (pc := 33) dX12_takesOut_33 rfl s0_153 hb38 nr_153 ?_
                  refine fr_vret (pc := 34) dX12_takesOut_34 rfl ?_
                  refine fr_iload (pc := 145) dX12_change_145 rfl rfl ?_
                  exact fr_iret (pc := 147) dX12_change_147 (Or.inl rfl) hq
                · refine fr_aload_n (pc := 124) dX12_change_124 rfl rfl ?_
                  refine fr_iload_n (pc := 125) dX12_change_125 rfl rfl ?_
                  refine fr_iconst (pc := 126) dX12_change_126 (by decide) ?_
                  refine fr_icm_ne (tg := 134) (pc := 127) dX12_change_127 rfl hq (fun hc40 hq => ?_) (fun hc40 hq => ?_)
                  · refine fr_iconst (pc := 130) dX12_change_130 (by decide) ?_
                    refine fr_goto (tg := 135) (pc := 131) dX12_change_131 rfl ?_
                    refine fr_inVI (a := 142) (as := [(0, 1)]) (rest := []) (ls' := [(2, 142), (0, 1), (9, 0), (9, 0)]) (c1 := 0) (c2 := 0) (pc := 135) dX12_change_135 pl_12_370 rfl ⟨Nat.le_of_ble_eq_true rfl, Nat.le_of_ble_eq_true rfl⟩ rfl rfl rfl s0_142 (Nat.le_of_ble_eq_true rfl) (by omega) rfl rfl (pm_zc _) (hq sc _ (by omega)) (fun r42 M41 hq => ?_)
                    refine fr_istore (ls2 := [(2, 142), (0, a1), (0, a2), (0, a3), (0, 0), (0, r36), (0, r42)]) (pc := 138) dX12_change_138 rfl (Nat.le_of_ble_eq_true rfl) rfl ?_
                    refine fr_aload_n (pc := 140) dX12_change_140 rfl rfl ?_
                    refine fr_iconst (pc := 141) dX12_change_141 (by decide) ?_
                    refine fr_inVV (a := 142) (as := [(0, 0)]) (rest := []) (ls' := [(2, 142), (0, 0)]) (c1 := 0) (c2 := 0) (pc := 142) dX12_change_142 pl_12_374 rfl ⟨Nat.le_of_ble_eq_true rfl, Nat.le_of_ble_eq_true rfl⟩ rfl rfl rfl s0_142 (Nat.le_of_ble_eq_true rfl) (by omega) rfl rfl (pm_zc _) ?_ (fun M' h => h)
                    refine fr_aload_n (pc := 0) dX12_takesOut_0 rfl rfl ?_
                    refine fr_getr (a := 142) (pc := 1) dX12_takesOut_1 rfl pf_12_20 s0_142 rfl rf_142_11 ?_
                    refine fr_aload_n (pc := 4) dX12_takesOut_4 rfl rfl ?_
                    refine fr_getr (a := 142) (pc := 5) dX12_takesOut_5 rfl pf_12_75 s0_142 rfl rf_142_47 ?_
                    refine fr_iload_n (pc := 8) dX12_takesOut_8 rfl rfl ?_
                    refine fr_iaload (a := 162) (v := gI M41 162 0) (pc := 9) dX12_takesOut_9 rfl s0_162 (by decide) rfl ?_
                    refine fr_aload_n (pc := 10) dX12_takesOut_10 rfl rfl ?_
                    refine fr_getr (a := 142) (pc := 11) dX12_takesOut_11 rfl pf_12_78 s0_142 rfl rf_142_48 ?_
                    refine fr_iload_n (pc := 14) dX12_takesOut_14 rfl rfl ?_
                    refine fr_iaload (a := 163) (v := gI M41 163 0) (pc := 15) dX12_takesOut_15 rfl s0_163 (by decide) rfl ?_
                    obtain ⟨hb43, hq⟩ := hq
                    refine fr_iastore (a := 146) (pc := 16) dX12_takesOut_16 rfl s0_146 hb43 nr_146 ?_
                    refine fr_aload_n (pc := 17) dX12_takesOut_17 rfl rfl ?_
                    refine fr_getr (a := 142) (pc := 18) dX12_takesOut_18 rfl pf_12_41 s0_142 rfl rf_142_23 ?_
                    refine fr_aload_n (pc := 21) dX12_takesOut_21 rfl rfl ?_
                    refine fr_getr (a := 142) (pc := 22) dX12_takesOut_22 rfl pf_12_75 s0_142 rfl rf_142_47 ?_
                    refine fr_iload_n (pc := 25) dX12_takesOut_25 rfl rfl ?_
                    refine fr_iaload (a := 162) (v := gI M41 162 0) (pc := 26) dX12_takesOut_26 rfl s0_162 (by decide) (gI_ne _ _ _ _ (by decide)) ?_
                    refine fr_aload_n (pc := 27) dX12_takesOut_27 rfl rfl ?_
                    refine fr_getr (a := 142) (pc := 28) dX12_takesOut_28 rfl pf_12_81 s0_142 rfl rf_142_49 ?_
                    refine fr_iload_n (pc := 31) dX12_takesOut_31 rfl rfl ?_
                    refine fr_iaload (a := 164) (v := gI M41 164 0) (pc := 32) dX12_takesOut_32 rfl s0_164 (by decide) (gI_ne _ _ _ _ (by decide)) ?_
                    obtain ⟨hb44, hq⟩ := hq
                    refine fr_iastore (a := 153) (pc := 33) dX12_takesOut_33 rfl s0_153 hb44 nr_153 ?_
                    refine fr_vret (pc := 34) dX12_takesOut_34 rfl ?_
                    refine fr_iload (pc := 145) dX12_change_145 rfl rfl ?_
                    exact fr_iret (pc := 147) dX12_change_147 (Or.inl rfl) hq
                  · refine fr_iconst (pc := 134) dX12_change_134 (by decide) ?_
                    refine fr_inVI (a := 142) (as := [(0, 0)]) (rest := []) (ls' := [(2, 142), (0, 0), (9, 0), (9, 0)]) (c1 := 0) (c2 := 0) (pc := 135) dX12_change_135 pl_12_370 rfl ⟨Nat.le_of_ble_eq_true rfl, Nat.le_of_ble_eq_true rfl⟩ rfl rfl rfl s0_142 (Nat.le_of_ble_eq_true rfl) (by omega) rfl rfl (pm_zc _) (hq sc _ (by omega)) (fun r46 M45 hq => ?_)
                    refine fr_istore (ls2 := [(2, 142), (0, a1), (0, a2), (0, a3), (0, 0), (0, r36), (0, r46)]) (pc := 138) dX12_change_138 rfl (Nat.le_of_ble_eq_true rfl) rfl ?_
                    refine fr_aload_n (pc := 140) dX12_change_140 rfl rfl ?_
                    refine fr_iconst (pc := 141) dX12_change_141 (by decide) ?_
                    refine fr_inVV (a := 142) (as := [(0, 0)]) (rest := []) (ls' := [(2, 142), (0, 0)]) (c1 := 0) (c2 := 0) (pc := 142) dX12_change_142 pl_12_374 rfl ⟨Nat.le_of_ble_eq_true rfl, Nat.le_of_ble_eq_true rfl⟩ rfl rfl rfl s0_142 (Nat.le_of_ble_eq_true rfl) (by omega) rfl rfl (pm_zc _) ?_ (fun M' h => h)
                    refine fr_aload_n (pc := 0) dX12_takesOut_0 rfl rfl ?_
                    refine fr_getr (a := 142) (pc := 1) dX12_takesOut_1 rfl pf_12_20 s0_142 rfl rf_142_11 ?_
                    refine fr_aload_n (pc := 4) dX12_takesOut_4 rfl rfl ?_
                    refine fr_getr (a := 142) (pc := 5) dX12_takesOut_5 rfl pf_12_75 s0_142 rfl rf_142_47 ?_
                    refine fr_iload_n (pc := 8) dX12_takesOut_8 rfl rfl ?_
                    refine fr_iaload (a := 162) (v := gI M45 162 0) (pc := 9) dX12_takesOut_9 rfl s0_162 (by decide) rfl ?_
                    refine fr_aload_n (pc := 10) dX12_takesOut_10 rfl rfl ?_
                    refine fr_getr (a := 142) (pc := 11) dX12_takesOut_11 rfl pf_12_78 s0_142 rfl rf_142_48 ?_
                    refine fr_iload_n (pc := 14) dX12_takesOut_14 rfl rfl ?_
                    refine fr_iaload (a := 163) (v := gI M45 163 0) (pc := 15) dX12_takesOut_15 rfl s0_163 (by decide) rfl ?_
                    obtain ⟨hb47, hq⟩ := hq
                    refine fr_iastore (a := 146) (pc := 16) dX12_takesOut_16 rfl s0_146 hb47 nr_146 ?_
                    refine fr_aload_n (pc := 17) dX12_takesOut_17 rfl rfl ?_
                    refine fr_getr (a := 142) (pc := 18) dX12_takesOut_18 rfl pf_12_41 s0_142 rfl rf_142_23 ?_
                    refine fr_aload_n (pc := 21) dX12_takesOut_21 rfl rfl ?_
                    refine fr_getr (a := 142) (pc := 22) dX12_takesOut_22 rfl pf_12_75 s0_142 rfl rf_142_47 ?_
                    refine fr_iload_n (pc := 25) dX12_takesOut_25 rfl rfl ?_
                    refine fr_iaload (a := 162) (v := gI M45 162 0) (pc := 26) dX12_takesOut_26 rfl s0_162 (by decide) (gI_ne _ _ _ _ (by decide)) ?_
                    refine fr_aload_n (pc := 27) dX12_takesOut_27 rfl rfl ?_
                    refine fr_getr (a := 142) (pc := 28) dX12_takesOut_28 rfl pf_12_81 s0_142 rfl rf_142_49 ?_
                    refine fr_iload_n (pc := 31) dX12_takesOut_31 rfl rfl ?_
                    refine fr_iaload (a := 164) (v := gI M45 164 0) (pc := 32) dX12_takesOut_32 rfl s0_164 (by decide) (gI_ne _ _ _ _ (by decide)) ?_
                    obtain ⟨hb48, hq⟩ := hq
                    refine fr_iastore (a := 153) (pc := 33) dX12_takesOut_33 rfl s0_153 hb48 nr_153 ?_
                    refine fr_vret (pc := 34) dX12_takesOut_34 rfl ?_
                    refine fr_iload (pc := 145) dX12_change_145 rfl rfl ?_
                    exact fr_iret (pc := 147) dX12_change_147 (Or.inl rfl) hq
        · refine fr_iconst (pc := 14) dX12_within_14 (by decide) ?_
          refine fr_iret (pc := 15) dX12_within_15 (Or.inr (Or.inl ⟨rfl, Or.inl rfl⟩)) ?_
          refine fr_ifcT (tg := 31) (pc := 19) dX12_change_19 rfl rfl ?_
          refine fr_sipush (pc := 31) dX12_change_31 (by decide) ?_
          exact fr_iret (pc := 34) dX12_change_34 (Or.inl rfl) hq
    · refine fr_iconst (pc := 14) dX12_within_14 (by decide) ?_
      refine fr_iret (pc := 15) dX12_within_15 (Or.inr (Or.inl ⟨rfl, Or.inl rfl⟩)) ?_
      refine fr_iret (pc := 13) dX12_isNode_13 (Or.inr (Or.inl ⟨rfl, Or.inl rfl⟩)) ?_
      refine fr_ifcT (tg := 31) (pc := 10) dX12_change_10 rfl rfl ?_
      refine fr_sipush (pc := 31) dX12_change_31 (by decide) ?_
      exact fr_iret (pc := 34) dX12_change_34 (Or.inl rfl) hq
theorem k12_allPass_r {M : pm_M} {K : Int → pm_M → Prop} (hq : (if gI M 144 0 ≤ 0 then K 1 M else k12_allPass_11 0 M K)) : k12_allPass M K := by
  intro sc d hd
  refine fr_aload_n (pc := 0) dX12_allPass_0 rfl rfl ?_
  refine fr_inVI (a := 142) (as := []) (rest := []) (ls' := [(2, 142)]) (c1 := 0) (c2 := 0) (pc := 1) dX12_allPass_1 pl_12_299 rfl ⟨Nat.le_of_ble_eq_true rfl, Nat.le_of_ble_eq_true rfl⟩ rfl rfl rfl s0_142 (Nat.le_of_ble_eq_true rfl) (by omega) rfl rfl (pm_zc _) ?_ (fun y M' h => h)
  refine fr_aload_n (pc := 0) dX12_isProgram_0 rfl rfl ?_
  refine fr_getr (a := 142) (pc := 1) dX12_isProgram_1 rfl pf_12_13 s0_142 rfl rf_142_9 ?_
  refine fr_iconst (pc := 4) dX12_isProgram_4 (by decide) ?_
  refine fr_iaload (a := 144) (v := gI M 144 0) (pc := 5) dX12_isProgram_5 rfl s0_144 (by decide) rfl ?_
  refine fr_ifc_le (tg := 13) (pc := 6) dX12_isProgram_6 rfl hq (fun hc1 hq => ?_) (fun hc1 hq => ?_)
  · refine fr_iconst (pc := 13) dX12_isProgram_13 (by decide) ?_
    refine fr_iret (pc := 14) dX12_isProgram_14 (Or.inr (Or.inl ⟨rfl, Or.inl rfl⟩)) ?_
    refine fr_ifcF (tg := 9) (pc := 4) dX12_allPass_4 rfl rfl ?_
    refine fr_iconst (pc := 7) dX12_allPass_7 (by decide) ?_
    exact fr_iret (pc := 8) dX12_allPass_8 (Or.inr (Or.inl ⟨rfl, Or.inr rfl⟩)) hq
  · refine fr_iconst (pc := 9) dX12_isProgram_9 (by decide) ?_
    refine fr_goto (tg := 14) (pc := 10) dX12_isProgram_10 rfl ?_
    refine fr_iret (pc := 14) dX12_isProgram_14 (Or.inr (Or.inl ⟨rfl, Or.inr rfl⟩)) ?_
    refine fr_ifcT (tg := 9) (pc := 4) dX12_allPass_4 rfl rfl ?_
    refine fr_iconst (pc := 9) dX12_allPass_9 (by decide) ?_
    refine fr_istore_n (ls2 := [(2, 142), (0, 0)]) (pc := 10) dX12_allPass_10 rfl (Nat.le_of_ble_eq_true rfl) rfl ?_
    exact hq sc d hd
theorem k12_allPass_11_r {l1 : Int} {M : pm_M} {K : Int → pm_M → Prop} (hq : (if l1 < gI M 142 24 then ((0 ≤ w32 ((w32 (5 * l1)) + 4) ∧ w32 ((w32 (5 * l1)) + 4) < 80) ∧ (if gI M 154 (w32 ((w32 (5 * l1)) + 4)) = 1 then k12_allPass_11 (w32 (l1 + 1)) M K else k12_passes l1 M (fun r5 M4 => (if r5 = 0 then K 0 M4 else k12_allPass_11 (w32 (l1 + 1)) M4 K)))) else K 1 M)) : k12_allPass_11 l1 M K := by
  intro sc d hd
  refine fr_iload_n (pc := 11) dX12_allPass_11 rfl rfl ?_
  refine fr_aload_n (pc := 12) dX12_allPass_12 rfl rfl ?_
  refine fr_getf (a := 142) (i := 24) (v := gI M 142 24) (t := 0) (pc := 13) dX12_allPass_13 rfl pf_12_246 rfl s0_142 rfl rfl ?_
  refine fr_icm_ge (tg := 43) (pc := 16) dX12_allPass_16 rfl hq (fun hc1 hq => ?_) (fun hc1 hq => ?_)
  · refine fr_aload_n (pc := 19) dX12_allPass_19 rfl rfl ?_
    refine fr_iload_n (pc := 20) dX12_allPass_20 rfl rfl ?_
    refine fr_inVI (a := 142) (as := [(0, l1)]) (rest := []) (ls' := [(2, 142), (0, l1)]) (c1 := 0) (c2 := 0) (pc := 21) dX12_allPass_21 pl_12_323 rfl ⟨Nat.le_of_ble_eq_true rfl, Nat.le_of_ble_eq_true rfl⟩ rfl rfl rfl s0_142 (Nat.le_of_ble_eq_true rfl) (by omega) rfl rfl (pm_zc _) ?_ (fun y M' h => h)
    refine fr_aload_n (pc := 0) dX12_isHeld_0 rfl rfl ?_
    refine fr_getr (a := 142) (pc := 1) dX12_isHeld_1 rfl pf_12_44 s0_142 rfl rf_142_25 ?_
    refine fr_iconst (pc := 4) dX12_isHeld_4 (by decide) ?_
    refine fr_iload_n (pc := 5) dX12_isHeld_5 rfl rfl ?_
    refine fr_imul (z := w32 (5 * l1)) (pc := 6) dX12_isHeld_6 rfl ?_
    refine fr_iconst (pc := 7) dX12_isHeld_7 (by decide) ?_
    refine fr_iadd (z := w32 ((w32 (5 * l1)) + 4)) (pc := 8) dX12_isHeld_8 rfl ?_
    obtain ⟨hb2, hq⟩ := hq
    refine fr_iaload (a := 154) (v := gI M 154 (w32 ((w32 (5 * l1)) + 4))) (pc := 9) dX12_isHeld_9 rfl s0_154 hb2 rfl ?_
    refine fr_iconst (pc := 10) dX12_isHeld_10 (by decide) ?_
    refine fr_icm_ne (tg := 18) (pc := 11) dX12_isHeld_11 rfl hq (fun hc3 hq => ?_) (fun hc3 hq => ?_)
    · refine fr_iconst (pc := 14) dX12_isHeld_14 (by decide) ?_
      refine fr_goto (tg := 19) (pc := 15) dX12_isHeld_15 rfl ?_
      refine fr_iret (pc := 19) dX12_isHeld_19 (Or.inr (Or.inl ⟨rfl, Or.inr rfl⟩)) ?_
      refine fr_ifcT (tg := 37) (pc := 24) dX12_allPass_24 rfl rfl ?_
      refine fr_iinc (z := w32 (l1 + 1)) (ls2 := [(2, 142), (0, w32 (l1 + 1))]) (pc := 37) dX12_allPass_37 (Nat.le_of_ble_eq_true rfl) rfl rfl rfl ?_
      refine fr_goto (tg := 11) (pc := 40) dX12_allPass_40 rfl ?_
      exact hq sc d hd
    · refine fr_iconst (pc := 18) dX12_isHeld_18 (by decide) ?_
      refine fr_iret (pc := 19) dX12_isHeld_19 (Or.inr (Or.inl ⟨rfl, Or.inl rfl⟩)) ?_
      refine fr_ifcF (tg := 37) (pc := 24) dX12_allPass_24 rfl rfl ?_
      refine fr_aload_n (pc := 27) dX12_allPass_27 rfl rfl ?_
      refine fr_iload_n (pc := 28) dX12_allPass_28 rfl rfl ?_
      refine fr_inVI (a := 142) (as := [(0, l1)]) (rest := []) (ls' := [(2, 142), (0, l1)]) (c1 := 0) (c2 := 0) (pc := 29) dX12_allPass_29 pl_12_302 rfl ⟨Nat.le_of_ble_eq_true rfl, Nat.le_of_ble_eq_true rfl⟩ rfl rfl rfl s0_142 (Nat.le_of_ble_eq_true rfl) (by omega) rfl rfl (pm_zc _) (hq sc _ (by omega)) (fun r5 M4 hq => ?_)
      refine fr_ifc_ne (tg := 37) (pc := 32) dX12_allPass_32 rfl hq (fun hc6 hq => ?_) (fun hc6 hq => ?_)
      · refine fr_iconst (pc := 35) dX12_allPass_35 (by decide) ?_
        exact fr_iret (pc := 36) dX12_allPass_36 (Or.inr (Or.inl ⟨rfl, Or.inl rfl⟩)) hq
      · refine fr_iinc (z := w32 (l1 + 1)) (ls2 := [(2, 142), (0, w32 (l1 + 1))]) (pc := 37) dX12_allPass_37 (Nat.le_of_ble_eq_true rfl) rfl rfl rfl ?_
        refine fr_goto (tg := 11) (pc := 40) dX12_allPass_40 rfl ?_
        exact hq sc d hd
  · refine fr_iconst (pc := 43) dX12_allPass_43 (by decide) ?_
    exact fr_iret (pc := 44) dX12_allPass_44 (Or.inr (Or.inl ⟨rfl, Or.inr rfl⟩)) hq
theorem k12_manyPass_r {a1 : Int} {M : pm_M} {K : Int → pm_M → Prop} (hq : k12_manyPass_4 a1 0 0 M K) : k12_manyPass a1 M K := by
  intro sc d hd
  refine fr_iconst (pc := 0) dX12_manyPass_0 (by decide) ?_
  refine fr_istore_n (ls2 := [(2, 142), (0, a1), (0, 0), (9, 0)]) (pc := 1) dX12_manyPass_1 rfl (Nat.le_of_ble_eq_true rfl) rfl ?_
  refine fr_iconst (pc := 2) dX12_manyPass_2 (by decide) ?_
  refine fr_istore_n (ls2 := [(2, 142), (0, a1), (0, 0), (0, 0)]) (pc := 3) dX12_manyPass_3 rfl (Nat.le_of_ble_eq_true rfl) rfl ?_
  exact hq sc d hd
theorem k12_manyPass_4_r {l1 l2 l3 : Int} {M : pm_M} {K : Int → pm_M → Prop} (hq : (if l3 < gI M 142 24 then ((0 ≤ w32 ((w32 (5 * l3)) + 4) ∧ w32 ((w32 (5 * l3)) + 4) < 80) ∧ (if gI M 154 (w32 ((w32 (5 * l3)) + 4)) = 1 then (if 1 = l1 then k12_passes l3 M (fun r6 M5 => (if r6 = 0 then k12_manyPass_4 l1 (w32 (l2 + 0)) (w32 (l3 + 1)) M5 K else k12_manyPass_4 l1 (w32 (l2 + 1)) (w32 (l3 + 1)) M5 K)) else k12_manyPass_4 l1 (w32 (l2 + 0)) (w32 (l3 + 1)) M K) else (if 0 = l1 then k12_passes l3 M (fun r10 M9 => (if r10 = 0 then k12_manyPass_4 l1 (w32 (l2 + 0)) (w32 (l3 + 1)) M9 K else k12_manyPass_4 l1 (w32 (l2 + 1)) (w32 (l3 + 1)) M9 K)) else k12_manyPass_4 l1 (w32 (l2 + 0)) (w32 (l3 + 1)) M K))) else K l2 M)) : k12_manyPass_4 l1 l2 l3 M K := by
  intro sc d hd
  refine fr_iload_n (pc := 4) dX12_manyPass_4 rfl rfl ?_
  refine fr_aload_n (pc := 5) dX12_manyPass_5 rfl rfl ?_
  refine fr_getf (a := 142) (i := 24) (v := gI M 142 24) (t := 0) (pc := 6) dX12_manyPass_6 rfl pf_12_246 rfl s0_142 rfl rfl ?_
  refine fr_icm_ge (tg := 43) (pc := 9) dX12_manyPass_9 rfl hq (fun hc1 hq => ?_) (fun hc1 hq => ?_)
  · refine fr_iload_n (pc := 12) dX12_manyPass_12 rfl rfl ?_
    refine fr_aload_n (pc := 13) dX12_manyPass_13 rfl rfl ?_
    refine fr_iload_n (pc := 14) dX12_manyPass_14 rfl rfl ?_
    refine fr_inVI (a := 142) (as := [(0, l3)]) (rest := [(0, l2)]) (ls' := [(2, 142), (0, l3)]) (c1 := 0) (c2 := 0) (pc := 15) dX12_manyPass_15 pl_12_323 rfl ⟨Nat.le_of_ble_eq_true rfl, Nat.le_of_ble_eq_true rfl⟩ rfl rfl rfl s0_142 (Nat.le_of_ble_eq_true rfl) (by omega) rfl rfl (pm_zc _) ?_ (fun y M' h => h)
    refine fr_aload_n (pc := 0) dX12_isHeld_0 rfl rfl ?_
    refine fr_getr (a := 142) (pc := 1) dX12_isHeld_1 rfl pf_12_44 s0_142 rfl rf_142_25 ?_
    refine fr_iconst (pc := 4) dX12_isHeld_4 (by decide) ?_
    refine fr_iload_n (pc := 5) dX12_isHeld_5 rfl rfl ?_
    refine fr_imul (z := w32 (5 * l3)) (pc := 6) dX12_isHeld_6 rfl ?_
    refine fr_iconst (pc := 7) dX12_isHeld_7 (by decide) ?_
    refine fr_iadd (z := w32 ((w32 (5 * l3)) + 4)) (pc := 8) dX12_isHeld_8 rfl ?_
    obtain ⟨hb2, hq⟩ := hq
    refine fr_iaload (a := 154) (v := gI M 154 (w32 ((w32 (5 * l3)) + 4))) (pc := 9) dX12_isHeld_9 rfl s0_154 hb2 rfl ?_
    refine fr_iconst (pc := 10) dX12_isHeld_10 (by decide) ?_
    refine fr_icm_ne (tg := 18) (pc := 11) dX12_isHeld_11 rfl hq (fun hc3 hq => ?_) (fun hc3 hq => ?_)
    · refine fr_iconst (pc := 14) dX12_isHeld_14 (by decide) ?_
      refine fr_goto (tg := 19) (pc := 15) dX12_isHeld_15 rfl ?_
      refine fr_iret (pc := 19) dX12_isHeld_19 (Or.inr (Or.inl ⟨rfl, Or.inr rfl⟩)) ?_
      refine fr_iload_n (pc := 18) dX12_manyPass_18 rfl rfl ?_
      refine fr_icm_ne (tg := 34) (pc := 19) dX12_manyPass_19 rfl hq (fun hc4 hq => ?_) (fun hc4 hq => ?_)
      · refine fr_aload_n (pc := 22) dX12_manyPass_22 rfl rfl ?_
        refine fr_iload_n (pc := 23) dX12_manyPass_23 rfl rfl ?_
        refine fr_inVI (a := 142) (as := [(0, l3)]) (rest := [(0, l2)]) (ls' := [(2, 142), (0, l3)]) (c1 := 0) (c2 := 0) (pc := 24) dX12_manyPass_24 pl_12_302 rfl ⟨Nat.le_of_ble_eq_true rfl, Nat.le_of_ble_eq_true rfl⟩ rfl rfl rfl s0_142 (Nat.le_of_ble_eq_true rfl) (by omega) rfl rfl (pm_zc _) (hq sc _ (by omega)) (fun r6 M5 hq => ?_)
        refine fr_ifc_eq (tg := 34) (pc := 27) dX12_manyPass_27 rfl hq (fun hc7 hq => ?_) (fun hc7 hq => ?_)
        · refine fr_iconst (pc := 34) dX12_manyPass_34 (by decide) ?_
          refine fr_iadd (z := w32 (l2 + 0)) (pc := 35) dX12_manyPass_35 rfl ?_
          refine fr_istore_n (ls2 := [(2, 142), (0, l1), (0, w32 (l2 + 0)), (0, l3)]) (pc := 36) dX12_manyPass_36 rfl (Nat.le_of_ble_eq_true rfl) rfl ?_
          refine fr_iinc (z := w32 (l3 + 1)) (ls2 := [(2, 142), (0, l1), (0, w32 (l2 + 0)), (0, w32 (l3 + 1))]) (pc := 37) dX12_manyPass_37 (Nat.le_of_ble_eq_true rfl) rfl rfl rfl ?_
          refine fr_goto (tg := 4) (pc := 40) dX12_manyPass_40 rfl ?_
          exact hq sc d hd
        · refine fr_iconst (pc := 30) dX12_manyPass_30 (by decide) ?_
          refine fr_goto (tg := 35) (pc := 31) dX12_manyPass_31 rfl ?_
          refine fr_iadd (z := w32 (l2 + 1)) (pc := 35) dX12_manyPass_35 rfl ?_
          refine fr_istore_n (ls2 := [(2, 142), (0, l1), (0, w32 (l2 + 1)), (0, l3)]) (pc := 36) dX12_manyPass_36 rfl (Nat.le_of_ble_eq_true rfl) rfl ?_
          refine fr_iinc (z := w32 (l3 + 1)) (ls2 := [(2, 142), (0, l1), (0, w32 (l2 + 1)), (0, w32 (l3 + 1))]) (pc := 37) dX12_manyPass_37 (Nat.le_of_ble_eq_true rfl) rfl rfl rfl ?_
          refine fr_goto (tg := 4) (pc := 40) dX12_manyPass_40 rfl ?_
          exact hq sc d hd
      · refine fr_iconst (pc := 34) dX12_manyPass_34 (by decide) ?_
        refine fr_iadd (z := w32 (l2 + 0)) (pc := 35) dX12_manyPass_35 rfl ?_
        refine fr_istore_n (ls2 := [(2, 142), (0, l1), (0, w32 (l2 + 0)), (0, l3)]) (pc := 36) dX12_manyPass_36 rfl (Nat.le_of_ble_eq_true rfl) rfl ?_
        refine fr_iinc (z := w32 (l3 + 1)) (ls2 := [(2, 142), (0, l1), (0, w32 (l2 + 0)), (0, w32 (l3 + 1))]) (pc := 37) dX12_manyPass_37 (Nat.le_of_ble_eq_true rfl) rfl rfl rfl ?_
        refine fr_goto (tg := 4) (pc := 40) dX12_manyPass_40 rfl ?_
        exact hq sc d hd
    · refine fr_iconst (pc := 18) dX12_isHeld_18 (by decide) ?_
      refine fr_iret (pc := 19) dX12_isHeld_19 (Or.inr (Or.inl ⟨rfl, Or.inl rfl⟩)) ?_
      refine fr_iload_n (pc := 18) dX12_manyPass_18 rfl rfl ?_
      refine fr_icm_ne (tg := 34) (pc := 19) dX12_manyPass_19 rfl hq (fun hc8 hq => ?_) (fun hc8 hq => ?_)
      · refine fr_aload_n (pc := 22) dX12_manyPass_22 rfl rfl ?_
        refine fr_iload_n (pc := 23) dX12_manyPass_23 rfl rfl ?_
        refine fr_inVI (a := 142) (as := [(0, l3)]) (rest := [(0, l2)]) (ls' := [(2, 142), (0, l3)]) (c1 := 0) (c2 := 0) (pc := 24) dX12_manyPass_24 pl_12_302 rfl ⟨Nat.le_of_ble_eq_true rfl, Nat.le_of_ble_eq_true rfl⟩ rfl rfl rfl s0_142 (Nat.le_of_ble_eq_true rfl) (by omega) rfl rfl (pm_zc _) (hq sc _ (by omega)) (fun r10 M9 hq => ?_)
        refine fr_ifc_eq (tg := 34) (pc := 27) dX12_manyPass_27 rfl hq (fun hc11 hq => ?_) (fun hc11 hq => ?_)
        · refine fr_iconst (pc := 34) dX12_manyPass_34 (by decide) ?_
          refine fr_iadd (z := w32 (l2 + 0)) (pc := 35) dX12_manyPass_35 rfl ?_
          refine fr_istore_n (ls2 := [(2, 142), (0, l1), (0, w32 (l2 + 0)), (0, l3)]) (pc := 36) dX12_manyPass_36 rfl (Nat.le_of_ble_eq_true rfl) rfl ?_
          refine fr_iinc (z := w32 (l3 + 1)) (ls2 := [(2, 142), (0, l1), (0, w32 (l2 + 0)), (0, w32 (l3 + 1))]) (pc := 37) dX12_manyPass_37 (Nat.le_of_ble_eq_true rfl) rfl rfl rfl ?_
          refine fr_goto (tg := 4) (pc := 40) dX12_manyPass_40 rfl ?_
          exact hq sc d hd
        · refine fr_iconst (pc := 30) dX12_manyPass_30 (by decide) ?_
          refine fr_goto (tg := 35) (pc := 31) dX12_manyPass_31 rfl ?_
          refine fr_iadd (z := w32 (l2 + 1)) (pc := 35) dX12_manyPass_35 rfl ?_
          refine fr_istore_n (ls2 := [(2, 142), (0, l1), (0, w32 (l2 + 1)), (0, l3)]) (pc := 36) dX12_manyPass_36 rfl (Nat.le_of_ble_eq_true rfl) rfl ?_
          refine fr_iinc (z := w32 (l3 + 1)) (ls2 := [(2, 142), (0, l1), (0, w32 (l2 + 1)), (0, w32 (l3 + 1))]) (pc := 37) dX12_manyPass_37 (Nat.le_of_ble_eq_true rfl) rfl rfl rfl ?_
          refine fr_goto (tg := 4) (pc := 40) dX12_manyPass_40 rfl ?_
          exact hq sc d hd
      · refine fr_iconst (pc := 34) dX12_manyPass_34 (by decide) ?_
        refine fr_iadd (z := w32 (l2 + 0)) (pc := 35) dX12_manyPass_35 rfl ?_
        refine fr_istore_n (ls2 := [(2, 142), (0, l1), (0, w32 (l2 + 0)), (0, l3)]) (pc := 36) dX12_manyPass_36 rfl (Nat.le_of_ble_eq_true rfl) rfl ?_
        refine fr_iinc (z := w32 (l3 + 1)) (ls2 := [(2, 142), (0, l1), (0, w32 (l2 + 0)), (0, w32 (l3 + 1))]) (pc := 37) dX12_manyPass_37 (Nat.le_of_ble_eq_true rfl) rfl rfl rfl ?_
        refine fr_goto (tg := 4) (pc := 40) dX12_manyPass_40 rfl ?_
        exact hq sc d hd
  · refine fr_iload_n (pc := 43) dX12_manyPass_43 rfl rfl ?_
    exact fr_iret (pc := 44) dX12_manyPass_44 (Or.inl rfl) hq
theorem k12_mend_r {a1 a2 : Int} {M : pm_M} {K : Int → pm_M → Prop} (hq : (if a1 < (-1) then K (-1) (upI M 142 0 0) else (if a1 = (-1) then k12_mend_26 a1 a2 (upI M 142 0 0) K else (if a2 < 0 then K (-1) (upI M 142 0 0) else (if a2 ≤ 4 then k12_mend_26 a1 a2 (upI M 142 0 0) K else K (-1) (upI M 142 0 0)))))) : k12_mend a1 a2 M K := by
  intro sc d hd
  refine fr_aload_n (pc := 0) dX12_mend_0 rfl rfl ?_
  refine fr_iconst (pc := 1) dX12_mend_1 (by decide) ?_
  refine fr_put (a := 142) (i := 0) (pc := 2) dX12_mend_2 rfl pf_12_121 rfl s0_142 rfl rfl nf_142_0 rfl ?_
  refine fr_iload_n (pc := 5) dX12_mend_5 rfl rfl ?_
  refine fr_iconst (pc := 6) dX12_mend_6 (by decide) ?_
  refine fr_icm_lt (tg := 24) (pc := 7) dX12_mend_7 rfl hq (fun hc1 hq => ?_) (fun hc1 hq => ?_)
  · refine fr_iconst (pc := 24) dX12_mend_24 (by decide) ?_
    exact fr_iret (pc := 25) dX12_mend_25 (Or.inl rfl) hq
  · refine fr_iload_n (pc := 10) dX12_mend_10 rfl rfl ?_
    refine fr_iconst (pc := 11) dX12_mend_11 (by decide) ?_
    refine fr_icm_eq (tg := 26) (pc := 12) dX12_mend_12 rfl hq (fun hc2 hq => ?_) (fun hc2 hq => ?_)
    · exact hq sc d hd
    · refine fr_iload_n (pc := 15) dX12_mend_15 rfl rfl ?_
      refine fr_iconst (pc := 16) dX12_mend_16 (by decide) ?_
      refine fr_iconst (pc := 17) dX12_mend_17 (by decide) ?_
      refine fr_inSI (as := [(0, a2), (0, 0), (0, 4)]) (rest := []) (ls' := [(0, a2), (0, 0), (0, 4)]) (c1 := 0) (c2 := 0) (pc := 18) dX12_mend_18 pl_12_147 rfl ⟨Nat.le_of_ble_eq_true rfl, Nat.le_of_ble_eq_true rfl⟩ rfl rfl  (by omega) rfl rfl (pm_zc _) ?_ (fun y M' h => h)
      refine fr_iload_n (pc := 0) dX12_within_0 rfl rfl ?_
      refine fr_iload_n (pc := 1) dX12_within_1 rfl rfl ?_
      refine fr_icm_lt (tg := 14) (pc := 2) dX12_within_2 rfl hq (fun hc3 hq => ?_) (fun hc3 hq => ?_)
      · refine fr_iconst (pc := 14) dX12_within_14 (by decide) ?_
        refine fr_iret (pc := 15) dX12_within_15 (Or.inr (Or.inl ⟨rfl, Or.inl rfl⟩)) ?_
        refine fr_ifcF (tg := 26) (pc := 21) dX12_mend_21 rfl rfl ?_
        refine fr_iconst (pc := 24) dX12_mend_24 (by decide) ?_
        exact fr_iret (pc := 25) dX12_mend_25 (Or.inl rfl) hq
      · refine fr_iload_n (pc := 5) dX12_within_5 rfl rfl ?_
        refine fr_iload_n (pc := 6) dX12_within_6 rfl rfl ?_
        refine fr_icm_gt (tg := 14) (pc := 7) dX12_within_7 rfl hq (fun hc4 hq => ?_) (fun hc4 hq => ?_)
        · refine fr_iconst (pc := 10) dX12_within_10 (by decide) ?_
          refine fr_goto (tg := 15) (pc := 11) dX12_within_11 rfl ?_
          refine fr_iret (pc := 15) dX12_within_15 (Or.inr (Or.inl ⟨rfl, Or.inr rfl⟩)) ?_
          refine fr_ifcT (tg := 26) (pc := 21) dX12_mend_21 rfl rfl ?_
          exact hq sc d hd
        · refine fr_iconst (pc := 14) dX12_within_14 (by decide) ?_
          refine fr_iret (pc := 15) dX12_within_15 (Or.inr (Or.inl ⟨rfl, Or.inl rfl⟩)) ?_
          refine fr_ifcF (tg := 26) (pc := 21) dX12_mend_21 rfl rfl ?_
          refine fr_iconst (pc := 24) dX12_mend_24 (by decide) ?_
          exact fr_iret (pc := 25) dX12_mend_25 (Or.inl rfl) hq
theorem k12_mend_26_r {l1 l2 : Int} {M : pm_M} {K : Int → pm_M → Prop} (hq : k12_laysMends M (fun M1 => (if l1 = (-1) then K (gI M1 142 50) M1 else (if l1 < gI M1 142 50 then (if l2 = 0 then ((0 ≤ l1 ∧ l1 < 800) ∧ K (gI M1 165 l1) M1) else (if l2 = 1 then ((0 ≤ l1 ∧ l1 < 800) ∧ K (gI M1 166 l1) M1) else (if l2 = 2 then ((0 ≤ l1 ∧ l1 < 800) ∧ K (gI M1 167 l1) M1) else (if l2 = 3 then ((0 ≤ l1 ∧ l1 < 800) ∧ k12_manyTests 1 M1 (fun r14 M13 => (if gI M1 167 l1 < r14 then K 1 M13 else K 0 M13))) else ((0 ≤ l1 ∧ l1 < 800) ∧ K (gI M1 168 l1) M1))))) else K (-1) M1)))) : k12_mend_26 l1 l2 M K := by
  intro sc d hd
  refine fr_aload_n (pc := 26) dX12_mend_26 rfl rfl ?_
  refine fr_inVV (a := 142) (as := []) (rest := []) (ls' := [(2, 142), (9, 0), (9, 0), (9, 0)]) (c1 := 0) (c2 := 0) (pc := 27) dX12_mend_27 pl_12_389 rfl ⟨Nat.le_of_ble_eq_true rfl, Nat.le_of_ble_eq_true rfl⟩ rfl rfl rfl s0_142 (Nat.le_of_ble_eq_true rfl) (by omega) rfl rfl (pm_zc _) (hq sc _ (by omega)) (fun M1 hq => ?_)
  refine fr_iload_n (pc := 30) dX12_mend_30 rfl rfl ?_
  refine fr_iconst (pc := 31) dX12_mend_31 (by decide) ?_
  refine fr_icm_ne (tg := 40) (pc := 32) dX12_mend_32 rfl hq (fun hc3 hq => ?_) (fun hc3 hq => ?_)
  · refine fr_aload_n (pc := 35) dX12_mend_35 rfl rfl ?_
    refine fr_getf (a := 142) (i := 50) (v := gI M1 142 50) (t := 0) (pc := 36) dX12_mend_36 rfl pf_12_377 rfl s0_142 rfl rfl ?_
    exact fr_iret (pc := 39) dX12_mend_39 (Or.inl rfl) hq
  · refine fr_iload_n (pc := 40) dX12_mend_40 rfl rfl ?_
    refine fr_aload_n (pc := 41) dX12_mend_41 rfl rfl ?_
    refine fr_getf (a := 142) (i := 50) (v := gI M1 142 50) (t := 0) (pc := 42) dX12_mend_42 rfl pf_12_377 rfl s0_142 rfl rfl ?_
    refine fr_icm_lt (tg := 50) (pc := 45) dX12_mend_45 rfl hq (fun hc4 hq => ?_) (fun hc4 hq => ?_)
    · refine fr_iload_n (pc := 50) dX12_mend_50 rfl rfl ?_
      refine pm_ite hq (fun hc5 hq => ?_) (fun hc5 hq => ?_)
      · refine fr_tabV (tg := 80) (off := 29) (v := 0) (pc := 51) dX12_mend_51 hc5 (by decide) rfl rfl ?_
        refine fr_aload_n (pc := 80) dX12_mend_80 rfl rfl ?_
        refine fr_getr (a := 142) (pc := 81) dX12_mend_81 rfl pf_12_84 s0_142 rfl rf_142_51 ?_
        refine fr_iload_n (pc := 84) dX12_mend_84 rfl rfl ?_
        obtain ⟨hb6, hq⟩ := hq
        refine fr_iaload (a := 165) (v := gI M1 165 l1) (pc := 85) dX12_mend_85 rfl s0_165 hb6 rfl ?_
        exact fr_iret (pc := 86) dX12_mend_86 (Or.inl rfl) hq
      · refine pm_ite hq (fun hc7 hq => ?_) (fun hc7 hq => ?_)
        · refine fr_tabV (tg := 87) (off := 36) (v := 1) (pc := 51) dX12_mend_51 hc7 (by decide) rfl rfl ?_
          refine fr_aload_n (pc := 87) dX12_mend_87 rfl rfl ?_
          refine fr_getr (a := 142) (pc := 88) dX12_mend_88 rfl pf_12_87 s0_142 rfl rf_142_52 ?_
          refine fr_iload_n (pc := 91) dX12_mend_91 rfl rfl ?_
          obtain ⟨hb8, hq⟩ := hq
          refine fr_iaload (a := 166) (v := gI M1 166 l1) (pc := 92) dX12_mend_92 rfl s0_166 hb8 rfl ?_
          exact fr_iret (pc := 93) dX12_mend_93 (Or.inl rfl) hq
        · refine pm_ite hq (fun hc9 hq => ?_) (fun hc9 hq => ?_)
          · refine fr_tabV (tg := 94) (off := 43) (v := 2) (pc := 51) dX12_mend_51 hc9 (by decide) rfl rfl ?_
            refine fr_aload_n (pc := 94) dX12_mend_94 rfl rfl ?_
            refine fr_getr (a := 142) (pc := 95) dX12_mend_95 rfl pf_12_90 s0_142 rfl rf_142_53 ?_
            refine fr_iload_n (pc := 98) dX12_mend_98 rfl rfl ?_
            obtain ⟨hb10, hq⟩ := hq
            refine fr_iaload (a := 167) (v := gI M1 167 l1) (pc := 99) dX12_mend_99 rfl s0_167 hb10 rfl ?_
            exact fr_iret (pc := 100) dX12_mend_100 (Or.inl rfl) hq
          · refine pm_ite hq (fun hc11 hq => ?_) (fun hc11 hq => ?_)
            · refine fr_tabV (tg := 101) (off := 50) (v := 3) (pc := 51) dX12_mend_51 hc11 (by decide) rfl rfl ?_
              refine fr_aload_n (pc := 101) dX12_mend_101 rfl rfl ?_
              refine fr_getr (a := 142) (pc := 102) dX12_mend_102 rfl pf_12_90 s0_142 rfl rf_142_53 ?_
              refine fr_iload_n (pc := 105) dX12_mend_105 rfl rfl ?_
              obtain ⟨hb12, hq⟩ := hq
              refine fr_iaload (a := 167) (v := gI M1 167 l1) (pc := 106) dX12_mend_106 rfl s0_167 hb12 rfl ?_
              refine fr_aload_n (pc := 107) dX12_mend_107 rfl rfl ?_
              refine fr_iconst (pc := 108) dX12_mend_108 (by decide) ?_
              refine fr_inVI (a := 142) (as := [(0, 1)]) (rest := [(0, gI M1 167 l1)]) (ls' := [(2, 142), (0, 1), (9, 0), (9, 0)]) (c1 := 0) (c2 := 0) (pc := 109) dX12_mend_109 pl_12_392 rfl ⟨Nat.le_of_ble_eq_true rfl, Nat.le_of_ble_eq_true rfl⟩ rfl rfl rfl s0_142 (Nat.le_of_ble_eq_true rfl) (by omega) rfl rfl (pm_zc _) (hq sc _ (by omega)) (fun r14 M13 hq => ?_)
              refine fr_icm_ge (tg := 119) (pc := 112) dX12_mend_112 rfl hq (fun hc15 hq => ?_) (fun hc15 hq => ?_)
              · refine fr_iconst (pc := 115) dX12_mend_115 (by decide) ?_
                refine fr_goto (tg := 120) (pc := 116) dX12_mend_116 rfl ?_
                exact fr_iret (pc := 120) dX12_mend_120 (Or.inl rfl) hq
              · refine fr_iconst (pc := 119) dX12_mend_119 (by decide) ?_
                exact fr_iret (pc := 120) dX12_mend_120 (Or.inl rfl) hq
            · refine fr_tableO (tg := 121) (pc := 51) dX12_mend_51 (by omega) rfl ?_
              refine fr_aload_n (pc := 121) dX12_mend_121 rfl rfl ?_
              refine fr_getr (a := 142) (pc := 122) dX12_mend_122 rfl pf_12_93 s0_142 rfl rf_142_54 ?_
              refine fr_iload_n (pc := 125) dX12_mend_125 rfl rfl ?_
              obtain ⟨hb16, hq⟩ := hq
              refine fr_iaload (a := 168) (v := gI M1 168 l1) (pc := 126) dX12_mend_126 rfl s0_168 hb16 rfl ?_
              exact fr_iret (pc := 127) dX12_mend_127 (Or.inl rfl) hq
    · refine fr_iconst (pc := 48) dX12_mend_48 (by decide) ?_
      exact fr_iret (pc := 49) dX12_mend_49 (Or.inl rfl) hq
theorem k12_laysMends_r {M : pm_M} {K : pm_M → Prop} (hq : k12_allPass (upI M 142 50 0) (fun r2 M1 => (if r2 = 0 then k12_laysRanked 1 M1 (fun r5 M4 => k12_laysMends_21 r5 0 M4 K) else K M1))) : k12_laysMends M K := by
  intro sc d hd
  refine fr_aload_n (pc := 0) dX12_laysMends_0 rfl rfl ?_
  refine fr_iconst (pc := 1) dX12_laysMends_1 (by decide) ?_
  refine fr_put (a := 142) (i := 50) (pc := 2) dX12_laysMends_2 rfl pf_12_377 rfl s0_142 rfl rfl nf_142_50 rfl ?_
  refine fr_aload_n (pc := 5) dX12_laysMends_5 rfl rfl ?_
  refine fr_inVI (a := 142) (as := []) (rest := []) (ls' := [(2, 142), (9, 0)]) (c1 := 0) (c2 := 0) (pc := 6) dX12_laysMends_6 pl_12_364 rfl ⟨Nat.le_of_ble_eq_true rfl, Nat.le_of_ble_eq_true rfl⟩ rfl rfl rfl s0_142 (Nat.le_of_ble_eq_true rfl) (by omega) rfl rfl (pm_zc _) (hq sc _ (by omega)) (fun r2 M1 hq => ?_)
  refine fr_ifc_eq (tg := 13) (pc := 9) dX12_laysMends_9 rfl hq (fun hc3 hq => ?_) (fun hc3 hq => ?_)
  · refine fr_aload_n (pc := 13) dX12_laysMends_13 rfl rfl ?_
    refine fr_iconst (pc := 14) dX12_laysMends_14 (by decide) ?_
    refine fr_inVI (a := 142) (as := [(0, 1)]) (rest := []) (ls' := [(2, 142), (0, 1), (9, 0), (9, 0), (9, 0)]) (c1 := 0) (c2 := 0) (pc := 15) dX12_laysMends_15 pl_12_342 rfl ⟨Nat.le_of_ble_eq_true rfl, Nat.le_of_ble_eq_true rfl⟩ rfl rfl rfl s0_142 (Nat.le_of_ble_eq_true rfl) (by omega) rfl rfl (pm_zc _) (hq sc _ (by omega)) (fun r5 M4 hq => ?_)
    refine fr_istore_n (ls2 := [(2, 142), (0, r5), (9, 0), (9, 0)]) (pc := 18) dX12_laysMends_18 rfl (Nat.le_of_ble_eq_true rfl) rfl ?_
    refine fr_iconst (pc := 19) dX12_laysMends_19 (by decide) ?_
    refine fr_istore_n (ls2 := [(2, 142), (0, r5), (0, 0), (9, 0)]) (pc := 20) dX12_laysMends_20 rfl (Nat.le_of_ble_eq_true rfl) rfl ?_
    exact hq sc d hd (9, 0) pm_t9
  · exact fr_vret (pc := 12) dX12_laysMends_12 rfl hq
theorem k12_laysMends_21_r {l1 l2 : Int} {M : pm_M} {K : pm_M → Prop} (hq : (if l2 < l1 then k12_laysMends_28 l1 l2 0 M K else K M)) : k12_laysMends_21 l1 l2 M K := by
  intro sc d hd z3 hz3
  refine fr_iload_n (pc := 21) dX12_laysMends_21 rfl rfl ?_
  refine fr_iload_n (pc := 22) dX12_laysMends_22 rfl rfl ?_
  refine fr_icm_ge (tg := 69) (pc := 23) dX12_laysMends_23 rfl hq (fun hc1 hq => ?_) (fun hc1 hq => ?_)
  · refine fr_iconst (pc := 26) dX12_laysMends_26 (by decide) ?_
    refine fr_istore_n (ls2 := [(2, 142), (0, l1), (0, l2), (0, 0)]) (pc := 27) dX12_laysMends_27 rfl (Nat.le_of_ble_eq_true rfl) rfl ?_
    exact hq sc d hd
  · exact fr_vret (pc := 69) dX12_laysMends_69 rfl hq
theorem k12_laysMends_28_r {l1 l2 l3 : Int} {M : pm_M} {K : pm_M → Prop} (hq : (if l3 < gI M 144 0 then k12_statementOf l3 M (fun r3 M2 => ((0 ≤ l2 ∧ l2 < 20) ∧ (if r3 = gI M2 161 l2 then k12_laysMendsOf l3 M2 (fun M6 => k12_laysMends_28 l1 l2 (w32 (l3 + 1)) M6 K) else k12_laysMends_28 l1 l2 (w32 (l3 + 1)) M2 K))) else k12_laysMends_21 l1 (w32 (l2 + 1)) M K)) : k12_laysMends_28 l1 l2 l3 M K := by
  intro sc d hd
  refine fr_iload_n (pc := 28) dX12_laysMends_28 rfl rfl ?_
  refine fr_aload_n (pc := 29) dX12_laysMends_29 rfl rfl ?_
  refine fr_getr (a := 142) (pc := 30) dX12_laysMends_30 rfl pf_12_13 s0_142 rfl rf_142_9 ?_
  refine fr_iconst (pc := 33) dX12_laysMends_33 (by decide) ?_
  refine fr_iaload (a := 144) (v := gI M 144 0) (pc := 34) dX12_laysMends_34 rfl s0_144 (by decide) rfl ?_
  refine fr_icm_ge (tg := 63) (pc := 35) dX12_laysMends_35 rfl hq (fun hc1 hq => ?_) (fun hc1 hq => ?_)
  · refine fr_aload_n (pc := 38) dX12_laysMends_38 rfl rfl ?_
    refine fr_iload_n (pc := 39) dX12_laysMends_39 rfl rfl ?_
    refine fr_inVI (a := 142) (as := [(0, l3)]) (rest := []) (ls' := [(2, 142), (0, l3), (9, 0)]) (c1 := 0) (c2 := 0) (pc := 40) dX12_laysMends_40 pl_12_311 rfl ⟨Nat.le_of_ble_eq_true rfl, Nat.le_of_ble_eq_true rfl⟩ rfl rfl rfl s0_142 (Nat.le_of_ble_eq_true rfl) (by omega) rfl rfl (pm_zc _) (hq sc _ (by omega)) (fun r3 M2 hq => ?_)
    refine fr_aload_n (pc := 43) dX12_laysMends_43 rfl rfl ?_
    refine fr_getr (a := 142) (pc := 44) dX12_laysMends_44 rfl pf_12_72 s0_142 rfl rf_142_44 ?_
    refine fr_iload_n (pc := 47) dX12_laysMends_47 rfl rfl ?_
    obtain ⟨hb4, hq⟩ := hq
    refine fr_iaload (a := 161) (v := gI M2 161 l2) (pc := 48) dX12_laysMends_48 rfl s0_161 hb4 rfl ?_
    refine fr_icm_ne (tg := 57) (pc := 49) dX12_laysMends_49 rfl hq (fun hc5 hq => ?_) (fun hc5 hq => ?_)
    · refine fr_aload_n (pc := 52) dX12_laysMends_52 rfl rfl ?_
      refine fr_iload_n (pc := 53) dX12_laysMends_53 rfl rfl ?_
      refine fr_inVV (a := 142) (as := [(0, l3)]) (rest := []) (ls' := [(2, 142), (0, l3), (9, 0)]) (c1 := 0) (c2 := 0) (pc := 54) dX12_laysMends_54 pl_12_380 rfl ⟨Nat.le_of_ble_eq_true rfl, Nat.le_of_ble_eq_true rfl⟩ rfl rfl rfl s0_142 (Nat.le_of_ble_eq_true rfl) (by omega) rfl rfl (pm_zc _) (hq sc _ (by omega)) (fun M6 hq => ?_)
      refine fr_iinc (z := w32 (l3 + 1)) (ls2 := [(2, 142), (0, l1), (0, l2), (0, w32 (l3 + 1))]) (pc := 57) dX12_laysMends_57 (Nat.le_of_ble_eq_true rfl) rfl rfl rfl ?_
      refine fr_goto (tg := 28) (pc := 60) dX12_laysMends_60 rfl ?_
      exact hq sc d hd
    · refine fr_iinc (z := w32 (l3 + 1)) (ls2 := [(2, 142), (0, l1), (0, l2), (0, w32 (l3 + 1))]) (pc := 57) dX12_laysMends_57 (Nat.le_of_ble_eq_true rfl) rfl rfl rfl ?_
      refine fr_goto (tg := 28) (pc := 60) dX12_laysMends_60 rfl ?_
      exact hq sc d hd
  · refine fr_iinc (z := w32 (l2 + 1)) (ls2 := [(2, 142), (0, l1), (0, w32 (l2 + 1)), (0, l3)]) (pc := 63) dX12_laysMends_63 (Nat.le_of_ble_eq_true rfl) rfl rfl rfl ?_
    refine fr_goto (tg := 21) (pc := 66) dX12_laysMends_66 rfl ?_
    exact hq sc d hd (0, l3) pm_t0
theorem k12_laysMendsOf_r {a1 : Int} {M : pm_M} {K : pm_M → Prop} (hq : k12_laysMendsOf_2 a1 0 M K) : k12_laysMendsOf a1 M K := by
  intro sc d hd
  refine fr_iconst (pc := 0) dX12_laysMendsOf_0 (by decide) ?_
  refine fr_istore_n (ls2 := [(2, 142), (0, a1), (0, 0)]) (pc := 1) dX12_laysMendsOf_1 rfl (Nat.le_of_ble_eq_true rfl) rfl ?_
  exact hq sc d hd
theorem k12_laysMendsOf_2_r {l1 l2 : Int} {M : pm_M} {K : pm_M → Prop} (hq : k12_asks l1 l2 M (fun r2 M1 => (if r2 = 0 then K M1 else ((0 ≤ l1 ∧ l1 < 800) ∧ ((0 ≤ l1 ∧ l1 < 60) ∧ k12_allPass (upI (upI (upI (upI (upI M1 162 0 l1) 163 0 (gI M1 146 l1)) 164 0 (gI M1 153 l1)) 146 l1 (gI M1 142 45)) 153 l1 (gI M1 142 46)) (fun r7 M6 => (if r7 = 0 then ((0 ≤ gI M6 162 0 ∧ gI M6 162 0 < 800) ∧ ((0 ≤ gI M6 162 0 ∧ gI M6 162 0 < 60) ∧ k12_laysMendsOf_2 l1 (w32 (l2 + 1)) (upI (upI M6 146 (gI M6 162 0) (gI M6 163 0)) 153 (gI M6 162 0) (gI M6 164 0)) K)) else ((0 ≤ gI M6 142 50 ∧ gI M6 142 50 < 800) ∧ k12_laysEnds (upI (upI M6 165 (gI M6 142 50) l1) 166 (gI M6 142 50) l2) (fun M12 => ((0 ≤ gI M12 162 0 ∧ gI M12 162 0 < 800) ∧ ((0 ≤ gI M12 162 0 ∧ gI M12 162 0 < 60) ∧ k12_laysMendsOf_2 l1 (w32 (l2 + 1)) (upI (upI (upI M12 142 50 (w32 ((gI M12 142 50) + 1))) 146 (gI M12 162 0) (gI M12 163 0)) 153 (gI M12 162 0) (gI M12 164 0)) K))))))))))) : k12_laysMendsOf_2 l1 l2 M K := by
  intro sc d hd
  refine fr_aload_n (pc := 2) dX12_laysMendsOf_2 rfl rfl ?_
  refine fr_iload_n (pc := 3) dX12_laysMendsOf_3 rfl rfl ?_
  refine fr_iload_n (pc := 4) dX12_laysMendsOf_4 rfl rfl ?_
  refine fr_inVI (a := 142) (as := [(0, l1), (0, l2)]) (rest := []) (ls' := [(2, 142), (0, l1), (0, l2)]) (c1 := 0) (c2 := 0) (pc := 5) dX12_laysMendsOf_5 pl_12_358 rfl ⟨Nat.le_of_ble_eq_true rfl, Nat.le_of_ble_eq_true rfl⟩ rfl rfl rfl s0_142 (Nat.le_of_ble_eq_true rfl) (by omega) rfl rfl (pm_zc _) (hq sc _ (by omega)) (fun r2 M1 hq => ?_)
  refine fr_ifc_eq (tg := 77) (pc := 8) dX12_laysMendsOf_8 rfl hq (fun hc3 hq => ?_) (fun hc3 hq => ?_)
  · exact fr_vret (pc := 77) dX12_laysMendsOf_77 rfl hq
  · refine fr_aload_n (pc := 11) dX12_laysMendsOf_11 rfl rfl ?_
    refine fr_iconst (pc := 12) dX12_laysMendsOf_12 (by decide) ?_
    refine fr_iload_n (pc := 13) dX12_laysMendsOf_13 rfl rfl ?_
    refine fr_aload_n (pc := 14) dX12_laysMendsOf_14 rfl rfl ?_
    refine fr_getf (a := 142) (i := 45) (v := gI M1 142 45) (t := 0) (pc := 15) dX12_laysMendsOf_15 rfl pf_12_345 rfl s0_142 rfl rfl ?_
    refine fr_aload_n (pc := 18) dX12_laysMendsOf_18 rfl rfl ?_
    refine fr_getf (a := 142) (i := 46) (v := gI M1 142 46) (t := 0) (pc := 19) dX12_laysMendsOf_19 rfl pf_12_348 rfl s0_142 rfl rfl ?_
    refine fr_inVV (a := 142) (as := [(0, 0), (0, l1), (0, gI M1 142 45), (0, gI M1 142 46)]) (rest := []) (ls' := [(2, 142), (0, 0), (0, l1), (0, gI M1 142 45), (0, gI M1 142 46)]) (c1 := 0) (c2 := 0) (pc := 22) dX12_laysMendsOf_22 pl_12_367 rfl ⟨Nat.le_of_ble_eq_true rfl, Nat.le_of_ble_eq_true rfl⟩ rfl rfl rfl s0_142 (Nat.le_of_ble_eq_true rfl) (by omega) rfl rfl (pm_zc _) ?_ (fun M' h => h)
    refine fr_aload_n (pc := 0) dX12_puts__0 rfl rfl ?_
    refine fr_getr (a := 142) (pc := 1) dX12_puts__1 rfl pf_12_75 s0_142 rfl rf_142_47 ?_
    refine fr_iload_n (pc := 4) dX12_puts__4 rfl rfl ?_
    refine fr_iload_n (pc := 5) dX12_puts__5 rfl rfl ?_
    refine fr_iastore (a := 162) (pc := 6) dX12_puts__6 rfl s0_162 (by decide) nr_162 ?_
    refine fr_aload_n (pc := 7) dX12_puts__7 rfl rfl ?_
    refine fr_getr (a := 142) (pc := 8) dX12_puts__8 rfl pf_12_78 s0_142 rfl rf_142_48 ?_
    refine fr_iload_n (pc := 11) dX12_puts__11 rfl rfl ?_
    refine fr_aload_n (pc := 12) dX12_puts__12 rfl rfl ?_
    refine fr_getr (a := 142) (pc := 13) dX12_puts__13 rfl pf_12_20 s0_142 rfl rf_142_11 ?_
    refine fr_iload_n (pc := 16) dX12_puts__16 rfl rfl ?_
    obtain ⟨hb4, hq⟩ := hq
    refine fr_iaload (a := 146) (v := gI M1 146 l1) (pc := 17) dX12_puts__17 rfl s0_146 hb4 (gI_ne _ _ _ _ (by decide)) ?_
    refine fr_iastore (a := 163) (pc := 18) dX12_puts__18 rfl s0_163 (by decide) nr_163 ?_
    refine fr_aload_n (pc := 19) dX12_puts__19 rfl rfl ?_
    refine fr_getr (a := 142) (pc := 20) dX12_puts__20 rfl pf_12_81 s0_142 rfl rf_142_49 ?_
    refine fr_iload_n (pc := 23) dX12_puts__23 rfl rfl ?_
    refine fr_aload_n (pc := 24) dX12_puts__24 rfl rfl ?_
    refine fr_getr (a := 142) (pc := 25) dX12_puts__25 rfl pf_12_41 s0_142 rfl rf_142_23 ?_
    refine fr_iload_n (pc := 28) dX12_puts__28 rfl rfl ?_
    obtain ⟨hb5, hq⟩ := hq
    refine fr_iaload (a := 153) (v := gI M1 153 l1) (pc := 29) dX12_puts__29 rfl s0_153 hb5 ((gI_ne _ _ _ _ (by decide)).trans (gI_ne _ _ _ _ (by decide))) ?_
    refine fr_iastore (a := 164) (pc := 30) dX12_puts__30 rfl s0_164 (by decide) nr_164 ?_
    refine fr_aload_n (pc := 31) dX12_puts__31 rfl rfl ?_
    refine fr_getr (a := 142) (pc := 32) dX12_puts__32 rfl pf_12_20 s0_142 rfl rf_142_11 ?_
    refine fr_iload_n (pc := 35) dX12_puts__35 rfl rfl ?_
    refine fr_iload_n (pc := 36) dX12_puts__36 rfl rfl ?_
    refine fr_iastore (a := 146) (pc := 37) dX12_puts__37 rfl s0_146 ⟨hb5.1, by omega⟩ nr_146 ?_
    refine fr_aload_n (pc := 38) dX12_puts__38 rfl rfl ?_
    refine fr_getr (a := 142) (pc := 39) dX12_puts__39 rfl pf_12_41 s0_142 rfl rf_142_23 ?_
    refine fr_iload_n (pc := 42) dX12_puts__42 rfl rfl ?_
    refine fr_iload (pc := 43) dX12_puts__43 rfl rfl ?_
    refine fr_iastore (a := 153) (pc := 45) dX12_puts__45 rfl s0_153 hb5 nr_153 ?_
    refine fr_vret (pc := 46) dX12_puts__46 rfl ?_
    refine fr_aload_n (pc := 25) dX12_laysMendsOf_25 rfl rfl ?_
    refine fr_inVI (a := 142) (as := []) (rest := []) (ls' := [(2, 142), (9, 0)]) (c1 := 0) (c2 := 0) (pc := 26) dX12_laysMendsOf_26 pl_12_364 rfl ⟨Nat.le_of_ble_eq_true rfl, Nat.le_of_ble_eq_true rfl⟩ rfl rfl rfl s0_142 (Nat.le_of_ble_eq_true rfl) (by omega) rfl rfl (pm_zc _) (hq sc _ (by omega)) (fun r7 M6 hq => ?_)
    refine fr_ifc_eq (tg := 66) (pc := 29) dX12_laysMendsOf_29 rfl hq (fun hc8 hq => ?_) (fun hc8 hq => ?_)
    · refine fr_aload_n (pc := 66) dX12_laysMendsOf_66 rfl rfl ?_
      refine fr_iconst (pc := 67) dX12_laysMendsOf_67 (by decide) ?_
      refine fr_inVV (a := 142) (as := [(0, 0)]) (rest := []) (ls' := [(2, 142), (0, 0)]) (c1 := 0) (c2 := 0) (pc := 68) dX12_laysMendsOf_68 pl_12_374 rfl ⟨Nat.le_of_ble_eq_true rfl, Nat.le_of_ble_eq_true rfl⟩ rfl rfl rfl s0_142 (Nat.le_of_ble_eq_true rfl) (by omega) rfl rfl (pm_zc _) ?_ (fun M' h => h)
      refine fr_aload_n (pc := 0) dX12_takesOut_0 rfl rfl ?_
      refine fr_getr (a := 142) (pc := 1) dX12_takesOut_1 rfl pf_12_20 s0_142 rfl rf_142_11 ?_
      refine fr_aload_n (pc := 4) dX12_takesOut_4 rfl rfl ?_
      refine fr_getr (a := 142) (pc := 5) dX12_takesOut_5 rfl pf_12_75 s0_142 rfl rf_142_47 ?_
      refine fr_iload_n (pc := 8) dX12_takesOut_8 rfl rfl ?_
      refine fr_iaload (a := 162) (v := gI M6 162 0) (pc := 9) dX12_takesOut_9 rfl s0_162 (by decide) rfl ?_
      refine fr_aload_n (pc := 10) dX12_takesOut_10 rfl rfl ?_
      refine fr_getr (a := 142) (pc := 11) dX12_takesOut_11 rfl pf_12_78 s0_142 rfl rf_142_48 ?_
      refine fr_iload_n (pc := 14) dX12_takesOut_14 rfl rfl ?_
      refine fr_iaload (a := 163) (v := gI M6 163 0) (pc := 15) dX12_takesOut_15 rfl s0_163 (by decide) rfl ?_
      obtain ⟨hb9, hq⟩ := hq
      refine fr_iastore (a := 146) (pc := 16) dX12_takesOut_16 rfl s0_146 hb9 nr_146 ?_
      refine fr_aload_n (pc := 17) dX12_takesOut_17 rfl rfl ?_
      refine fr_getr (a := 142) (pc := 18) dX12_takesOut_18 rfl pf_12_41 s0_142 rfl rf_142_23 ?_
      refine fr_aload_n (pc := 21) dX12_takesOut_21 rfl rfl ?_
      refine fr_getr (a := 142) (pc := 22) dX12_takesOut_22 rfl pf_12_75 s0_142 rfl rf_142_47 ?_
      refine fr_iload_n (pc := 25) dX12_takesOut_25 rfl rfl ?_
      refine fr_iaload (a := 162) (v := gI M6 162 0) (pc := 26) dX12_takesOut_26 rfl s0_162 (by decide) (gI_ne _ _ _ _ (by decide)) ?_
      refine fr_aload_n (pc := 27) dX12_takesOut_27 rfl rfl ?_
      refine fr_getr (a := 142) (pc := 28) dX12_takesOut_28 rfl pf_12_81 s0_142 rfl rf_142_49 ?_
      refine fr_iload_n (pc := 31) dX12_takesOut_31 rfl rfl ?_
      refine fr_iaload (a := 164) (v := gI M6 164 0) (pc := 32) dX12_takesOut_32 rfl s0_164 (by decide) (gI_ne _ _ _ _ (by decide)) ?_
      obtain ⟨hb10, hq⟩ := hq
      refine fr_iastore (a := 153) (pc := 33) dX12_takesOut_33 rfl s0_153 hb10 nr_153 ?_
      refine fr_vret (pc := 34) dX12_takesOut_34 rfl ?_
      refine fr_iinc (z := w32 (l2 + 1)) (ls2 := [(2, 142), (0, l1), (0, w32 (l2 + 1))]) (pc := 71) dX12_laysMendsOf_71 (Nat.le_of_ble_eq_true rfl) rfl rfl rfl ?_
      refine fr_goto (tg := 2) (pc := 74) dX12_laysMendsOf_74 rfl ?_
      exact hq sc d hd
    · refine fr_aload_n (pc := 32) dX12_laysMendsOf_32 rfl rfl ?_
      refine fr_getr (a := 142) (pc := 33) dX12_laysMendsOf_33 rfl pf_12_84 s0_142 rfl rf_142_51 ?_
      refine fr_aload_n (pc := 36) dX12_laysMendsOf_36 rfl rfl ?_
      refine fr_getf (a := 142) (i := 50) (v := gI M6 142 50) (t := 0) (pc := 37) dX12_laysMendsOf_37 rfl pf_12_377 rfl s0_142 rfl rfl ?_
      refine fr_iload_n (pc := 40) dX12_laysMendsOf_40 rfl rfl ?_
      obtain ⟨hb11, hq⟩ := hq
      refine fr_iastore (a := 165) (pc := 41) dX12_laysMendsOf_41 rfl s0_165 hb11 nr_165 ?_
      refine fr_aload_n (pc := 42) dX12_laysMendsOf_42 rfl rfl ?_
      refine fr_getr (a := 142) (pc := 43) dX12_laysMendsOf_43 rfl pf_12_87 s0_142 rfl rf_142_52 ?_
      refine fr_aload_n (pc := 46) dX12_laysMendsOf_46 rfl rfl ?_
      refine fr_getf (a := 142) (i := 50) (v := gI M6 142 50) (t := 0) (pc := 47) dX12_laysMendsOf_47 rfl pf_12_377 rfl s0_142 rfl (gI_ne _ _ _ _ (by decide)) ?_
      refine fr_iload_n (pc := 50) dX12_laysMendsOf_50 rfl rfl ?_
      refine fr_iastore (a := 166) (pc := 51) dX12_laysMendsOf_51 rfl s0_166 hb11 nr_166 ?_
      refine fr_aload_n (pc := 52) dX12_laysMendsOf_52 rfl rfl ?_
      refine fr_inVV (a := 142) (as := []) (rest := []) (ls' := [(2, 142), (9, 0)]) (c1 := 0) (c2 := 0) (pc := 53) dX12_laysMendsOf_53 pl_12_383 rfl ⟨Nat.le_of_ble_eq_true rfl, Nat.le_of_ble_eq_true rfl⟩ rfl rfl rfl s0_142 (Nat.le_of_ble_eq_true rfl) (by omega) rfl rfl (pm_zc _) (hq sc _ (by omega)) (fun M12 hq => ?_)
      refine fr_aload_n (pc := 56) dX12_laysMendsOf_56 rfl rfl ?_
      refine fr_dup (pc := 57) dX12_laysMendsOf_57 pm_t2 ?_
      refine fr_getf (a := 142) (i := 50) (v := gI M12 142 50) (t := 0) (pc := 58) dX12_laysMendsOf_58 rfl pf_12_377 rfl s0_142 rfl rfl ?_
      refine fr_iconst (pc := 61) dX12_laysMendsOf_61 (by decide) ?_
      refine fr_iadd (z := w32 ((gI M12 142 50) + 1)) (pc := 62) dX12_laysMendsOf_62 rfl ?_
      refine fr_put (a := 142) (i := 50) (pc := 63) dX12_laysMendsOf_63 rfl pf_12_377 rfl s0_142 rfl rfl nf_142_50 rfl ?_
      refine fr_aload_n (pc := 66) dX12_laysMendsOf_66 rfl rfl ?_
      refine fr_iconst (pc := 67) dX12_laysMendsOf_67 (by decide) ?_
      refine fr_inVV (a := 142) (as := [(0, 0)]) (rest := []) (ls' := [(2, 142), (0, 0)]) (c1 := 0) (c2 := 0) (pc := 68) dX12_laysMendsOf_68 pl_12_374 rfl ⟨Nat.le_of_ble_eq_true rfl, Nat.le_of_ble_eq_true rfl⟩ rfl rfl rfl s0_142 (Nat.le_of_ble_eq_true rfl) (by omega) rfl rfl (pm_zc _) ?_ (fun M' h => h)
      refine fr_aload_n (pc := 0) dX12_takesOut_0 rfl rfl ?_
      refine fr_getr (a := 142) (pc := 1) dX12_takesOut_1 rfl pf_12_20 s0_142 rfl rf_142_11 ?_
      refine fr_aload_n (pc := 4) dX12_takesOut_4 rfl rfl ?_
      refine fr_getr (a := 142) (pc := 5) dX12_takesOut_5 rfl pf_12_75 s0_142 rfl rf_142_47 ?_
      refine fr_iload_n (pc := 8) dX12_takesOut_8 rfl rfl ?_
      refine fr_iaload (a := 162) (v := gI M12 162 0) (pc := 9) dX12_takesOut_9 rfl s0_162 (by decide) (gI_ne _ _ _ _ (by decide)) ?_
      refine fr_aload_n (pc := 10) dX12_takesOut_10 rfl rfl ?_
      refine fr_getr (a := 142) (pc := 11) dX12_takesOut_11 rfl pf_12_78 s0_142 rfl rf_142_48 ?_
      refine fr_iload_n (pc := 14) dX12_takesOut_14 rfl rfl ?_
      refine fr_iaload (a := 163) (v := gI M12 163 0) (pc := 15) dX12_takesOut_15 rfl s0_163 (by decide) (gI_ne _ _ _ _ (by decide)) ?_
      obtain ⟨hb14, hq⟩ := hq
      refine fr_iastore (a := 146) (pc := 16) dX12_takesOut_16 rfl s0_146 hb14 nr_146 ?_
      refine fr_aload_n (pc := 17) dX12_takesOut_17 rfl rfl ?_
      refine fr_getr (a := 142) (pc := 18) dX12_takesOut_18 rfl pf_12_41 s0_142 rfl rf_142_23 ?_
      refine fr_aload_n (pc := 21) dX12_takesOut_21 rfl rfl ?_
      refine fr_getr (a := 142) (pc := 22) dX12_takesOut_22 rfl pf_12_75 s0_142 rfl rf_142_47 ?_
      refine fr_iload_n (pc := 25) dX12_takesOut_25 rfl rfl ?_
      refine fr_iaload (a := 162) (v := gI M12 162 0) (pc := 26) dX12_takesOut_26 rfl s0_162 (by decide) ((gI_ne _ _ _ _ (by decide)).trans (gI_ne _ _ _ _ (by decide))) ?_
      refine fr_aload_n (pc := 27) dX12_takesOut_27 rfl rfl ?_
      refine fr_getr (a := 142) (pc := 28) dX12_takesOut_28 rfl pf_12_81 s0_142 rfl rf_142_49 ?_
      refine fr_iload_n (pc := 31) dX12_takesOut_31 rfl rfl ?_
      refine fr_iaload (a := 164) (v := gI M12 164 0) (pc := 32) dX12_takesOut_32 rfl s0_164 (by decide) ((gI_ne _ _ _ _ (by decide)).trans (gI_ne _ _ _ _ (by decide))) ?_
      obtain ⟨hb15, hq⟩ := hq
      refine fr_iastore (a := 153) (pc := 33) dX12_takesOut_33 rfl s0_153 hb15 nr_153 ?_
      refine fr_vret (pc := 34) dX12_takesOut_34 rfl ?_
      refine fr_iinc (z := w32 (l2 + 1)) (ls2 := [(2, 142), (0, l1), (0, w32 (l2 + 1))]) (pc := 71) dX12_laysMendsOf_71 (Nat.le_of_ble_eq_true rfl) rfl rfl rfl ?_
      refine fr_goto (tg := 2) (pc := 74) dX12_laysMendsOf_74 rfl ?_
      exact hq sc d hd
theorem k12_laysEnds_r {M : pm_M} {K : pm_M → Prop} (hq : ((0 ≤ gI M 142 50 ∧ gI M 142 50 < 800) ∧ k12_laysEnds_12 0 (upI M 167 (gI M 142 50) 0) K)) : k12_laysEnds M K := by
  intro sc d hd
  refine fr_aload_n (pc := 0) dX12_laysEnds_0 rfl rfl ?_
  refine fr_getr (a := 142) (pc := 1) dX12_laysEnds_1 rfl pf_12_90 s0_142 rfl rf_142_53 ?_
  refine fr_aload_n (pc := 4) dX12_laysEnds_4 rfl rfl ?_
  refine fr_getf (a := 142) (i := 50) (v := gI M 142 50) (t := 0) (pc := 5) dX12_laysEnds_5 rfl pf_12_377 rfl s0_142 rfl rfl ?_
  refine fr_iconst (pc := 8) dX12_laysEnds_8 (by decide) ?_
  obtain ⟨hb1, hq⟩ := hq
  refine fr_iastore (a := 167) (pc := 9) dX12_laysEnds_9 rfl s0_167 hb1 nr_167 ?_
  refine fr_iconst (pc := 10) dX12_laysEnds_10 (by decide) ?_
  refine fr_istore_n (ls2 := [(2, 142), (0, 0)]) (pc := 11) dX12_laysEnds_11 rfl (Nat.le_of_ble_eq_true rfl) rfl ?_
  exact hq sc d hd
theorem k12_laysEnds_12_r {l1 : Int} {M : pm_M} {K : pm_M → Prop} (hq : (if l1 < gI M 142 24 then ((0 ≤ gI M 142 50 ∧ gI M 142 50 < 800) ∧ k12_passes l1 M (fun r4 M3 => (if r4 = 0 then ((0 ≤ w32 ((w32 (16 * (gI M3 142 50))) + l1) ∧ w32 ((w32 (16 * (gI M3 142 50))) + l1) < 12800) ∧ k12_laysEnds_12 (w32 (l1 + 1)) (upI (upI (upI M3 167 (gI M 142 50) (w32 ((gI M 167 (gI M 142 50)) + 0))) 169 (w32 ((w32 (16 * (gI M3 142 50))) + l1)) (gI M3 142 29)) 170 (w32 ((w32 (16 * (gI M3 142 50))) + l1)) (gI M3 142 30)) K) else ((0 ≤ w32 ((w32 (5 * l1)) + 4) ∧ w32 ((w32 (5 * l1)) + 4) < 80) ∧ (if gI M3 154 (w32 ((w32 (5 * l1)) + 4)) = 1 then ((0 ≤ w32 ((w32 (16 * (gI M3 142 50))) + l1) ∧ w32 ((w32 (16 * (gI M3 142 50))) + l1) < 12800) ∧ k12_laysEnds_12 (w32 (l1 + 1)) (upI (upI (upI M3 167 (gI M 142 50) (w32 ((gI M 167 (gI M 142 50)) + 1))) 169 (w32 ((w32 (16 * (gI M3 142 50))) + l1)) (gI M3 142 29)) 170 (w32 ((w32 (16 * (gI M3 142 50))) + l1)) (gI M3 142 30)) K) else ((0 ≤ w32 ((w32 (16 * (gI M3 142 50))) + l1) ∧ w32 ((w32 (16 * (gI M3 142 50))) + l1) < 12800) ∧ k12_laysEnds_12 (w32 (l1 + 1)) (upI (upI (upI M3 167 (gI M 142 50) (w32 ((gI M 167 (gI M 142 50)) + 0))) 169 (w32 ((w32 (16 * (gI M3 142 50))) + l1)) (gI M3 142 29)) 170 (w32 ((w32 (16 * (gI M3 142 50))) + l1)) (gI M3 142 30)) K)))))) else k12_laysEnds_97 0 M K)) : k12_laysEnds_12 l1 M K := by
  intro sc d hd
  refine fr_iload_n (pc := 12) dX12_laysEnds_12 rfl rfl ?_
  refine fr_aload_n (pc := 13) dX12_laysEnds_13 rfl rfl ?_
  refine fr_getf (a := 142) (i := 24) (v := gI M 142 24) (t := 0) (pc := 14) dX12_laysEnds_14 rfl pf_12_246 rfl s0_142 rfl rfl ?_
  refine fr_icm_ge (tg := 95) (pc := 17) dX12_laysEnds_17 rfl hq (fun hc1 hq => ?_) (fun hc1 hq => ?_)
  · refine fr_aload_n (pc := 20) dX12_laysEnds_20 rfl rfl ?_
    refine fr_getr (a := 142) (pc := 21) dX12_laysEnds_21 rfl pf_12_90 s0_142 rfl rf_142_53 ?_
    refine fr_aload_n (pc := 24) dX12_laysEnds_24 rfl rfl ?_
    refine fr_getf (a := 142) (i := 50) (v := gI M 142 50) (t := 0) (pc := 25) dX12_laysEnds_25 rfl pf_12_377 rfl s0_142 rfl rfl ?_
    refine fr_dup2 (pc := 28) dX12_laysEnds_28 pm_t0 pm_t2 ?_
    obtain ⟨hb2, hq⟩ := hq
    refine fr_iaload (a := 167) (v := gI M 167 (gI M 142 50)) (pc := 29) dX12_laysEnds_29 rfl s0_167 hb2 rfl ?_
    refine fr_aload_n (pc := 30) dX12_laysEnds_30 rfl rfl ?_
    refine fr_iload_n (pc := 31) dX12_laysEnds_31 rfl rfl ?_
    refine fr_inVI (a := 142) (as := [(0, l1)]) (rest := [(0, gI M 167 (gI M 142 50)), (0, gI M 142 50), (2, 167)]) (ls' := [(2, 142), (0, l1)]) (c1 := 0) (c2 := 0) (pc := 32) dX12_laysEnds_32 pl_12_302 rfl ⟨Nat.le_of_ble_eq_true rfl, Nat.le_of_ble_eq_true rfl⟩ rfl rfl rfl s0_142 (Nat.le_of_ble_eq_true rfl) (by omega) rfl rfl (pm_zc _) (hq sc _ (by omega)) (fun r4 M3 hq => ?_)
    refine fr_ifc_eq (tg := 50) (pc := 35) dX12_laysEnds_35 rfl hq (fun hc5 hq => ?_) (fun hc5 hq => ?_)
    · refine fr_iconst (pc := 50) dX12_laysEnds_50 (by decide) ?_
      refine fr_iadd (z := w32 ((gI M 167 (gI M 142 50)) + 0)) (pc := 51) dX12_laysEnds_51 rfl ?_
      refine fr_iastore (a := 167) (pc := 52) dX12_laysEnds_52 rfl s0_167 hb2 nr_167 ?_
      refine fr_aload_n (pc := 53) dX12_laysEnds_53 rfl rfl ?_
      refine fr_getr (a := 142) (pc := 54) dX12_laysEnds_54 rfl pf_12_96 s0_142 rfl rf_142_55 ?_
      refine fr_bipush (pc := 57) dX12_laysEnds_57 (by decide) ?_
      refine fr_aload_n (pc := 59) dX12_laysEnds_59 rfl rfl ?_
      refine fr_getf (a := 142) (i := 50) (v := gI M3 142 50) (t := 0) (pc := 60) dX12_laysEnds_60 rfl pf_12_377 rfl s0_142 rfl (gI_ne _ _ _ _ (by decide)) ?_
      refine fr_imul (z := w32 (16 * (gI M3 142 50))) (pc := 63) dX12_laysEnds_63 rfl ?_
      refine fr_iload_n (pc := 64) dX12_laysEnds_64 rfl rfl ?_
      refine fr_iadd (z := w32 ((w32 (16 * (gI M3 142 50))) + l1)) (pc := 65) dX12_laysEnds_65 rfl ?_
      refine fr_aload_n (pc := 66) dX12_laysEnds_66 rfl rfl ?_
      refine fr_getf (a := 142) (i := 29) (v := gI M3 142 29) (t := 0) (pc := 67) dX12_laysEnds_67 rfl pf_12_258 rfl s0_142 rfl (gI_ne _ _ _ _ (by decide)) ?_
      obtain ⟨hb6, hq⟩ := hq
      refine fr_iastore (a := 169) (pc := 70) dX12_laysEnds_70 rfl s0_169 hb6 nr_169 ?_
      refine fr_aload_n (pc := 71) dX12_laysEnds_71 rfl rfl ?_
      refine fr_getr (a := 142) (pc := 72) dX12_laysEnds_72 rfl pf_12_99 s0_142 rfl rf_142_56 ?_
      refine fr_bipush (pc := 75) dX12_laysEnds_75 (by decide) ?_
      refine fr_aload_n (pc := 77) dX12_laysEnds_77 rfl rfl ?_
      refine fr_getf (a := 142) (i := 50) (v := gI M3 142 50) (t := 0) (pc := 78) dX12_laysEnds_78 rfl pf_12_377 rfl s0_142 rfl ((gI_ne _ _ _ _ (by decide)).trans (gI_ne _ _ _ _ (by decide))) ?_
      refine fr_imul (z := w32 (16 * (gI M3 142 50))) (pc := 81) dX12_laysEnds_81 rfl ?_
      refine fr_iload_n (pc := 82) dX12_laysEnds_82 rfl rfl ?_
      refine fr_iadd (z := w32 ((w32 (16 * (gI M3 142 50))) + l1)) (pc := 83) dX12_laysEnds_83 rfl ?_
      refine fr_aload_n (pc := 84) dX12_laysEnds_84 rfl rfl ?_
      refine fr_getf (a := 142) (i := 30) (v := gI M3 142 30) (t := 0) (pc := 85) dX12_laysEnds_85 rfl pf_12_287 rfl s0_142 rfl ((gI_ne _ _ _ _ (by decide)).trans (gI_ne _ _ _ _ (by decide))) ?_
      refine fr_iastore (a := 170) (pc := 88) dX12_laysEnds_88 rfl s0_170 hb6 nr_170 ?_
      refine fr_iinc (z := w32 (l1 + 1)) (ls2 := [(2, 142), (0, w32 (l1 + 1))]) (pc := 89) dX12_laysEnds_89 (Nat.le_of_ble_eq_true rfl) rfl rfl rfl ?_
      refine fr_goto (tg := 12) (pc := 92) dX12_laysEnds_92 rfl ?_
      exact hq sc d hd
    · refine fr_aload_n (pc := 38) dX12_laysEnds_38 rfl rfl ?_
      refine fr_iload_n (pc := 39) dX12_laysEnds_39 rfl rfl ?_
      refine fr_inVI (a := 142) (as := [(0, l1)]) (rest := [(0, gI M 167 (gI M 142 50)), (0, gI M 142 50), (2, 167)]) (ls' := [(2, 142), (0, l1)]) (c1 := 0) (c2 := 0) (pc := 40) dX12_laysEnds_40 pl_12_323 rfl ⟨Nat.le_of_ble_eq_true rfl, Nat.le_of_ble_eq_true rfl⟩ rfl rfl rfl s0_142 (Nat.le_of_ble_eq_true rfl) (by omega) rfl rfl (pm_zc _) ?_ (fun y M' h => h)
      refine fr_aload_n (pc := 0) dX12_isHeld_0 rfl rfl ?_
      refine fr_getr (a := 142) (pc := 1) dX12_isHeld_1 rfl pf_12_44 s0_142 rfl rf_142_25 ?_
      refine fr_iconst (pc := 4) dX12_isHeld_4 (by decide) ?_
      refine fr_iload_n (pc := 5) dX12_isHeld_5 rfl rfl ?_
      refine fr_imul (z := w32 (5 * l1)) (pc := 6) dX12_isHeld_6 rfl ?_
      refine fr_iconst (pc := 7) dX12_isHeld_7 (by decide) ?_
      refine fr_iadd (z := w32 ((w32 (5 * l1)) + 4)) (pc := 8) dX12_isHeld_8 rfl ?_
      obtain ⟨hb7, hq⟩ := hq
      refine fr_iaload (a := 154) (v := gI M3 154 (w32 ((w32 (5 * l1)) + 4))) (pc := 9) dX12_isHeld_9 rfl s0_154 hb7 rfl ?_
      refine fr_iconst (pc := 10) dX12_isHeld_10 (by decide) ?_
      refine fr_icm_ne (tg := 18) (pc := 11) dX12_isHeld_11 rfl hq (fun hc8 hq => ?_) (fun hc8 hq => ?_)
      · refine fr_iconst (pc := 14) dX12_isHeld_14 (by decide) ?_
        refine fr_goto (tg := 19) (pc := 15) dX12_isHeld_15 rfl ?_
        refine fr_iret (pc := 19) dX12_isHeld_19 (Or.inr (Or.inl ⟨rfl, Or.inr rfl⟩)) ?_
        refine fr_ifcF (tg := 50) (pc := 43) dX12_laysEnds_43 rfl rfl ?_
        refine fr_iconst (pc := 46) dX12_laysEnds_46 (by decide) ?_
        refine fr_goto (tg := 51) (pc := 47) dX12_laysEnds_47 rfl ?_
        refine fr_iadd (z := w32 ((gI M 167 (gI M 142 50)) + 1)) (pc := 51) dX12_laysEnds_51 rfl ?_
        refine fr_iastore (a := 167) (pc := 52) dX12_laysEnds_52 rfl s0_167 hb2 nr_167 ?_
        refine fr_aload_n (pc := 53) dX12_laysEnds_53 rfl rfl ?_
        refine fr_getr (a := 142) (pc := 54) dX12_laysEnds_54 rfl pf_12_96 s0_142 rfl rf_142_55 ?_
        refine fr_bipush (pc := 57) dX12_laysEnds_57 (by decide) ?_
        refine fr_aload_n (pc := 59) dX12_laysEnds_59 rfl rfl ?_
        refine fr_getf (a := 142) (i := 50) (v := gI M3 142 50) (t := 0) (pc := 60) dX12_laysEnds_60 rfl pf_12_377 rfl s0_142 rfl (gI_ne _ _ _ _ (by decide)) ?_
        refine fr_imul (z := w32 (16 * (gI M3 142 50))) (pc := 63) dX12_laysEnds_63 rfl ?_
        refine fr_iload_n (pc := 64) dX12_laysEnds_64 rfl rfl ?_
        refine fr_iadd (z := w32 ((w32 (16 * (gI M3 142 50))) + l1)) (pc := 65) dX12_laysEnds_65 rfl ?_
        refine fr_aload_n (pc := 66) dX12_laysEnds_66 rfl rfl ?_
        refine fr_getf (a := 142) (i := 29) (v := gI M3 142 29) (t := 0) (pc := 67) dX12_laysEnds_67 rfl pf_12_258 rfl s0_142 rfl (gI_ne _ _ _ _ (by decide)) ?_
        obtain ⟨hb9, hq⟩ := hq
        refine fr_iastore (a := 169) (pc := 70) dX12_laysEnds_70 rfl s0_169 hb9 nr_169 ?_
        refine fr_aload_n (pc := 71) dX12_laysEnds_71 rfl rfl ?_
        refine fr_getr (a := 142) (pc := 72) dX12_laysEnds_72 rfl pf_12_99 s0_142 rfl rf_142_56 ?_
        refine fr_bipush (pc := 75) dX12_laysEnds_75 (by decide) ?_
        refine fr_aload_n (pc := 77) dX12_laysEnds_77 rfl rfl ?_
        refine fr_getf (a := 142) (i := 50) (v := gI M3 142 50) (t := 0) (pc := 78) dX12_laysEnds_78 rfl pf_12_377 rfl s0_142 rfl ((gI_ne _ _ _ _ (by decide)).trans (gI_ne _ _ _ _ (by decide))) ?_
        refine fr_imul (z := w32 (16 * (gI M3 142 50))) (pc := 81) dX12_laysEnds_81 rfl ?_
        refine fr_iload_n (pc := 82) dX12_laysEnds_82 rfl rfl ?_
        refine fr_iadd (z := w32 ((w32 (16 * (gI M3 142 50))) + l1)) (pc := 83) dX12_laysEnds_83 rfl ?_
        refine fr_aload_n (pc := 84) dX12_laysEnds_84 rfl rfl ?_
        refine fr_getf (a := 142) (i := 30) (v := gI M3 142 30) (t := 0) (pc := 85) dX12_laysEnds_85 rfl pf_12_287 rfl s0_142 rfl ((gI_ne _ _ _ _ (by decide)).trans (gI_ne _ _ _ _ (by decide))) ?_
        refine fr_iastore (a := 170) (pc := 88) dX12_laysEnds_88 rfl s0_170 hb9 nr_170 ?_
        refine fr_iinc (z := w32 (l1 + 1)) (ls2 := [(2, 142), (0, w32 (l1 + 1))]) (pc := 89) dX12_laysEnds_89 (Nat.le_of_ble_eq_true rfl) rfl rfl rfl ?_
        refine fr_goto (tg := 12) (pc := 92) dX12_laysEnds_92 rfl ?_
        exact hq sc d hd
      · refine fr_iconst (pc := 18) dX12_isHeld_18 (by decide) ?_
        refine fr_iret (pc := 19) dX12_isHeld_19 (Or.inr (Or.inl ⟨rfl, Or.inl rfl⟩)) ?_
        refine fr_ifcT (tg := 50) (pc := 43) dX12_laysEnds_43 rfl rfl ?_
        refine fr_iconst (pc := 50) dX12_laysEnds_50 (by decide) ?_
        refine fr_iadd (z := w32 ((gI M 167 (gI M 142 50)) + 0)) (pc := 51) dX12_laysEnds_51 rfl ?_
        refine fr_iastore (a := 167) (pc := 52) dX12_laysEnds_52 rfl s0_167 hb2 nr_167 ?_
        refine fr_aload_n (pc := 53) dX12_laysEnds_53 rfl rfl ?_
        refine fr_getr (a := 142) (pc := 54) dX12_laysEnds_54 rfl pf_12_96 s0_142 rfl rf_142_55 ?_
        refine fr_bipush (pc := 57) dX12_laysEnds_57 (by decide) ?_
        refine fr_aload_n (pc := 59) dX12_laysEnds_59 rfl rfl ?_
        refine fr_getf (a := 142) (i := 50) (v := gI M3 142 50) (t := 0) (pc := 60) dX12_laysEnds_60 rfl pf_12_377 rfl s0_142 rfl (gI_ne _ _ _ _ (by decide)) ?_
        refine fr_imul (z := w32 (16 * (gI M3 142 50))) (pc := 63) dX12_laysEnds_63 rfl ?_
        refine fr_iload_n (pc := 64) dX12_laysEnds_64 rfl rfl ?_
        refine fr_iadd (z := w32 ((w32 (16 * (gI M3 142 50))) + l1)) (pc := 65) dX12_laysEnds_65 rfl ?_
        refine fr_aload_n (pc := 66) dX12_laysEnds_66 rfl rfl ?_
        refine fr_getf (a := 142) (i := 29) (v := gI M3 142 29) (t := 0) (pc := 67) dX12_laysEnds_67 rfl pf_12_258 rfl s0_142 rfl (gI_ne _ _ _ _ (by decide)) ?_
        obtain ⟨hb10, hq⟩ := hq
        refine fr_iastore (a := 169) (pc := 70) dX12_laysEnds_70 rfl s0_169 hb10 nr_169 ?_
        refine fr_aload_n (pc := 71) dX12_laysEnds_71 rfl rfl ?_
        refine fr_getr (a := 142) (pc := 72) dX12_laysEnds_72 rfl pf_12_99 s0_142 rfl rf_142_56 ?_
        refine fr_bipush (pc := 75) dX12_laysEnds_75 (by decide) ?_
        refine fr_aload_n (pc := 77) dX12_laysEnds_77 rfl rfl ?_
        refine fr_getf (a := 142) (i := 50) (v := gI M3 142 50) (t := 0) (pc := 78) dX12_laysEnds_78 rfl pf_12_377 rfl s0_142 rfl ((gI_ne _ _ _ _ (by decide)).trans (gI_ne _ _ _ _ (by decide))) ?_
        refine fr_imul (z := w32 (16 * (gI M3 142 50))) (pc := 81) dX12_laysEnds_81 rfl ?_
        refine fr_iload_n (pc := 82) dX12_laysEnds_82 rfl rfl ?_
        refine fr_iadd (z := w32 ((w32 (16 * (gI M3 142 50))) + l1)) (pc := 83) dX12_laysEnds_83 rfl ?_
        refine fr_aload_n (pc := 84) dX12_laysEnds_84 rfl rfl ?_
        refine fr_getf (a := 142) (i := 30) (v := gI M3 142 30) (t := 0) (pc := 85) dX12_laysEnds_85 rfl pf_12_287 rfl s0_142 rfl ((gI_ne _ _ _ _ (by decide)).trans (gI_ne _ _ _ _ (by decide))) ?_
        refine fr_iastore (a := 170) (pc := 88) dX12_laysEnds_88 rfl s0_170 hb10 nr_170 ?_
        refine fr_iinc (z := w32 (l1 + 1)) (ls2 := [(2, 142), (0, w32 (l1 + 1))]) (pc := 89) dX12_laysEnds_89 (Nat.le_of_ble_eq_true rfl) rfl rfl rfl ?_
        refine fr_goto (tg := 12) (pc := 92) dX12_laysEnds_92 rfl ?_
        exact hq sc d hd
  · refine fr_iconst (pc := 95) dX12_laysEnds_95 (by decide) ?_
    refine fr_istore_n (ls2 := [(2, 142), (0, 0)]) (pc := 96) dX12_laysEnds_96 rfl (Nat.le_of_ble_eq_true rfl) rfl ?_
    exact hq sc d hd
theorem k12_laysEnds_97_r {l1 : Int} {M : pm_M} {K : pm_M → Prop} (hq : (if l1 < gI M 142 50 then k12_areAlike l1 (gI M 142 50) M (fun r3 M2 => (if r3 = 0 then k12_laysEnds_97 (w32 (l1 + 1)) M2 K else ((0 ≤ gI M2 142 50 ∧ gI M2 142 50 < 800) ∧ K (upI M2 168 (gI M2 142 50) l1)))) else ((0 ≤ gI M 142 50 ∧ gI M 142 50 < 800) ∧ K (upI M 168 (gI M 142 50) l1)))) : k12_laysEnds_97 l1 M K := by
  intro sc d hd
  refine fr_iload_n (pc := 97) dX12_laysEnds_97 rfl rfl ?_
  refine fr_aload_n (pc := 98) dX12_laysEnds_98 rfl rfl ?_
  refine fr_getf (a := 142) (i := 50) (v := gI M 142 50) (t := 0) (pc := 99) dX12_laysEnds_99 rfl pf_12_377 rfl s0_142 rfl rfl ?_
  refine fr_icm_ge (tg := 123) (pc := 102) dX12_laysEnds_102 rfl hq (fun hc1 hq => ?_) (fun hc1 hq => ?_)
  · refine fr_aload_n (pc := 105) dX12_laysEnds_105 rfl rfl ?_
    refine fr_iload_n (pc := 106) dX12_laysEnds_106 rfl rfl ?_
    refine fr_aload_n (pc := 107) dX12_laysEnds_107 rfl rfl ?_
    refine fr_getf (a := 142) (i := 50) (v := gI M 142 50) (t := 0) (pc := 108) dX12_laysEnds_108 rfl pf_12_377 rfl s0_142 rfl rfl ?_
    refine fr_inVI (a := 142) (as := [(0, l1), (0, gI M 142 50)]) (rest := []) (ls' := [(2, 142), (0, l1), (0, gI M 142 50), (9, 0), (9, 0)]) (c1 := 0) (c2 := 0) (pc := 111) dX12_laysEnds_111 pl_12_386 rfl ⟨Nat.le_of_ble_eq_true rfl, Nat.le_of_ble_eq_true rfl⟩ rfl rfl rfl s0_142 (Nat.le_of_ble_eq_true rfl) (by omega) rfl rfl (pm_zc _) (hq sc _ (by omega)) (fun r3 M2 hq => ?_)
    refine fr_ifc_ne (tg := 123) (pc := 114) dX12_laysEnds_114 rfl hq (fun hc4 hq => ?_) (fun hc4 hq => ?_)
    · refine fr_iinc (z := w32 (l1 + 1)) (ls2 := [(2, 142), (0, w32 (l1 + 1))]) (pc := 117) dX12_laysEnds_117 (Nat.le_of_ble_eq_true rfl) rfl rfl rfl ?_
      refine fr_goto (tg := 97) (pc := 120) dX12_laysEnds_120 rfl ?_
      exact hq sc d hd
    · refine fr_aload_n (pc := 123) dX12_laysEnds_123 rfl rfl ?_
      refine fr_getr (a := 142) (pc := 124) dX12_laysEnds_124 rfl pf_12_93 s0_142 rfl rf_142_54 ?_
      refine fr_aload_n (pc := 127) dX12_laysEnds_127 rfl rfl ?_
      refine fr_getf (a := 142) (i := 50) (v := gI M2 142 50) (t := 0) (pc := 128) dX12_laysEnds_128 rfl pf_12_377 rfl s0_142 rfl rfl ?_
      refine fr_iload_n (pc := 131) dX12_laysEnds_131 rfl rfl ?_
      obtain ⟨hb5, hq⟩ := hq
      refine fr_iastore (a := 168) (pc := 132) dX12_laysEnds_132 rfl s0_168 hb5 nr_168 ?_
      exact fr_vret (pc := 133) dX12_laysEnds_133 rfl hq
  · refine fr_aload_n (pc := 123) dX12_laysEnds_123 rfl rfl ?_
    refine fr_getr (a := 142) (pc := 124) dX12_laysEnds_124 rfl pf_12_93 s0_142 rfl rf_142_54 ?_
    refine fr_aload_n (pc := 127) dX12_laysEnds_127 rfl rfl ?_
    refine fr_getf (a := 142) (i := 50) (v := gI M 142 50) (t := 0) (pc := 128) dX12_laysEnds_128 rfl pf_12_377 rfl s0_142 rfl rfl ?_
    refine fr_iload_n (pc := 131) dX12_laysEnds_131 rfl rfl ?_
    obtain ⟨hb6, hq⟩ := hq
    refine fr_iastore (a := 168) (pc := 132) dX12_laysEnds_132 rfl s0_168 hb6 nr_168 ?_
    exact fr_vret (pc := 133) dX12_laysEnds_133 rfl hq
theorem k12_areAlike_r {a1 a2 : Int} {M : pm_M} {K : Int → pm_M → Prop} (hq : k12_areAlike_5 a1 a2 1 0 M K) : k12_areAlike a1 a2 M K := by
  intro sc d hd
  refine fr_iconst (pc := 0) dX12_areAlike_0 (by decide) ?_
  refine fr_istore_n (ls2 := [(2, 142), (0, a1), (0, a2), (0, 1), (9, 0)]) (pc := 1) dX12_areAlike_1 rfl (Nat.le_of_ble_eq_true rfl) rfl ?_
  refine fr_iconst (pc := 2) dX12_areAlike_2 (by decide) ?_
  refine fr_istore (ls2 := [(2, 142), (0, a1), (0, a2), (0, 1), (0, 0)]) (pc := 3) dX12_areAlike_3 rfl (Nat.le_of_ble_eq_true rfl) rfl ?_
  exact hq sc d hd
theorem k12_areAlike_5_r {l1 l2 l3 l4 : Int} {M : pm_M} {K : Int → pm_M → Prop} (hq : (if l4 < gI M 142 24 then (if l3 = 0 then k12_areAlike_5 l1 l2 0 (w32 (l4 + 1)) M K else ((0 ≤ w32 ((w32 (16 * l1)) + l4) ∧ w32 ((w32 (16 * l1)) + l4) < 12800) ∧ ((0 ≤ w32 ((w32 (16 * l2)) + l4) ∧ w32 ((w32 (16 * l2)) + l4) < 12800) ∧ (if gI M 169 (w32 ((w32 (16 * l1)) + l4)) = gI M 169 (w32 ((w32 (16 * l2)) + l4)) then (if gI M 170 (w32 ((w32 (16 * l1)) + l4)) = gI M 170 (w32 ((w32 (16 * l2)) + l4)) then k12_areAlike_5 l1 l2 1 (w32 (l4 + 1)) M K else k12_areAlike_5 l1 l2 0 (w32 (l4 + 1)) M K) else k12_areAlike_5 l1 l2 0 (w32 (l4 + 1)) M K)))) else ((l3 = 0 ∨ l3 = 1) ∧ K l3 M))) : k12_areAlike_5 l1 l2 l3 l4 M K := by
  intro sc d hd
  refine fr_iload (pc := 5) dX12_areAlike_5 rfl rfl ?_
  refine fr_aload_n (pc := 7) dX12_areAlike_7 rfl rfl ?_
  refine fr_getf (a := 142) (i := 24) (v := gI M 142 24) (t := 0) (pc := 8) dX12_areAlike_8 rfl pf_12_246 rfl s0_142 rfl rfl ?_
  refine fr_icm_ge (tg := 84) (pc := 11) dX12_areAlike_11 rfl hq (fun hc1 hq => ?_) (fun hc1 hq => ?_)
  · refine fr_iload_n (pc := 14) dX12_areAlike_14 rfl rfl ?_
    refine fr_ifc_eq (tg := 76) (pc := 15) dX12_areAlike_15 rfl hq (fun hc2 hq => ?_) (fun hc2 hq => ?_)
    · refine fr_iconst (pc := 76) dX12_areAlike_76 (by decide) ?_
      refine fr_istore_n (ls2 := [(2, 142), (0, l1), (0, l2), (0, 0), (0, l4)]) (pc := 77) dX12_areAlike_77 rfl (Nat.le_of_ble_eq_true rfl) rfl ?_
      refine fr_iinc (z := w32 (l4 + 1)) (ls2 := [(2, 142), (0, l1), (0, l2), (0, 0), (0, w32 (l4 + 1))]) (pc := 78) dX12_areAlike_78 (Nat.le_of_ble_eq_true rfl) rfl rfl rfl ?_
      refine fr_goto (tg := 5) (pc := 81) dX12_areAlike_81 rfl ?_
      exact hq sc d hd
    · refine fr_aload_n (pc := 18) dX12_areAlike_18 rfl rfl ?_
      refine fr_getr (a := 142) (pc := 19) dX12_areAlike_19 rfl pf_12_96 s0_142 rfl rf_142_55 ?_
      refine fr_bipush (pc := 22) dX12_areAlike_22 (by decide) ?_
      refine fr_iload_n (pc := 24) dX12_areAlike_24 rfl rfl ?_
      refine fr_imul (z := w32 (16 * l1)) (pc := 25) dX12_areAlike_25 rfl ?_
      refine fr_iload (pc := 26) dX12_areAlike_26 rfl rfl ?_
      refine fr_iadd (z := w32 ((w32 (16 * l1)) + l4)) (pc := 28) dX12_areAlike_28 rfl ?_
      obtain ⟨hb3, hq⟩ := hq
      refine fr_iaload (a := 169) (v := gI M 169 (w32 ((w32 (16 * l1)) + l4))) (pc := 29) dX12_areAlike_29 rfl s0_169 hb3 rfl ?_
      refine fr_aload_n (pc := 30) dX12_areAlike_30 rfl rfl ?_
      refine fr_getr (a := 142) (pc := 31) dX12_areAlike_31 rfl pf_12_96 s0_142 rfl rf_142_55 ?_
      refine fr_bipush (pc := 34) dX12_areAlike_34 (by decide) ?_
      refine fr_iload_n (pc := 36) dX12_areAlike_36 rfl rfl ?_
      refine fr_imul (z := w32 (16 * l2)) (pc := 37) dX12_areAlike_37 rfl ?_
      refine fr_iload (pc := 38) dX12_areAlike_38 rfl rfl ?_
      refine fr_iadd (z := w32 ((w32 (16 * l2)) + l4)) (pc := 40) dX12_areAlike_40 rfl ?_
      obtain ⟨hb4, hq⟩ := hq
      refine fr_iaload (a := 169) (v := gI M 169 (w32 ((w32 (16 * l2)) + l4))) (pc := 41) dX12_areAlike_41 rfl s0_169 hb4 rfl ?_
      refine fr_icm_ne (tg := 76) (pc := 42) dX12_areAlike_42 rfl hq (fun hc5 hq => ?_) (fun hc5 hq => ?_)
      · refine fr_aload_n (pc := 45) dX12_areAlike_45 rfl rfl ?_
        refine fr_getr (a := 142) (pc := 46) dX12_areAlike_46 rfl pf_12_99 s0_142 rfl rf_142_56 ?_
        refine fr_bipush (pc := 49) dX12_areAlike_49 (by decide) ?_
        refine fr_iload_n (pc := 51) dX12_areAlike_51 rfl rfl ?_
        refine fr_imul (z := w32 (16 * l1)) (pc := 52) dX12_areAlike_52 rfl ?_
        refine fr_iload (pc := 53) dX12_areAlike_53 rfl rfl ?_
        refine fr_iadd (z := w32 ((w32 (16 * l1)) + l4)) (pc := 55) dX12_areAlike_55 rfl ?_
        refine fr_iaload (a := 170) (v := gI M 170 (w32 ((w32 (16 * l1)) + l4))) (pc := 56) dX12_areAlike_56 rfl s0_170 hb3 rfl ?_
        refine fr_aload_n (pc := 57) dX12_areAlike_57 rfl rfl ?_
        refine fr_getr (a := 142) (pc := 58) dX12_areAlike_58 rfl pf_12_99 s0_142 rfl rf_142_56 ?_
        refine fr_bipush (pc := 61) dX12_areAlike_61 (by decide) ?_
        refine fr_iload_n (pc := 63) dX12_areAlike_63 rfl rfl ?_
        refine fr_imul (z := w32 (16 * l2)) (pc := 64) dX12_areAlike_64 rfl ?_
        refine fr_iload (pc := 65) dX12_areAlike_65 rfl rfl ?_
        refine fr_iadd (z := w32 ((w32 (16 * l2)) + l4)) (pc := 67) dX12_areAlike_67 rfl ?_
        refine fr_iaload (a := 170) (v := gI M 170 (w32 ((w32 (16 * l2)) + l4))) (pc := 68) dX12_areAlike_68 rfl s0_170 hb4 rfl ?_
        refine fr_icm_ne (tg := 76) (pc := 69) dX12_areAlike_69 rfl hq (fun hc6 hq => ?_) (fun hc6 hq => ?_)
        · refine fr_iconst (pc := 72) dX12_areAlike_72 (by decide) ?_
          refine fr_goto (tg := 77) (pc := 73) dX12_areAlike_73 rfl ?_
          refine fr_istore_n (ls2 := [(2, 142), (0, l1), (0, l2), (0, 1), (0, l4)]) (pc := 77) dX12_areAlike_77 rfl (Nat.le_of_ble_eq_true rfl) rfl ?_
          refine fr_iinc (z := w32 (l4 + 1)) (ls2 := [(2, 142), (0, l1), (0, l2), (0, 1), (0, w32 (l4 + 1))]) (pc := 78) dX12_areAlike_78 (Nat.le_of_ble_eq_true rfl) rfl rfl rfl ?_
          refine fr_goto (tg := 5) (pc := 81) dX12_areAlike_81 rfl ?_
          exact hq sc d hd
        · refine fr_iconst (pc := 76) dX12_areAlike_76 (by decide) ?_
          refine fr_istore_n (ls2 := [(2, 142), (0, l1), (0, l2), (0, 0), (0, l4)]) (pc := 77) dX12_areAlike_77 rfl (Nat.le_of_ble_eq_true rfl) rfl ?_
          refine fr_iinc (z := w32 (l4 + 1)) (ls2 := [(2, 142), (0, l1), (0, l2), (0, 0), (0, w32 (l4 + 1))]) (pc := 78) dX12_areAlike_78 (Nat.le_of_ble_eq_true rfl) rfl rfl rfl ?_
          refine fr_goto (tg := 5) (pc := 81) dX12_areAlike_81 rfl ?_
          exact hq sc d hd
      · refine fr_iconst (pc := 76) dX12_areAlike_76 (by decide) ?_
        refine fr_istore_n (ls2 := [(2, 142), (0, l1), (0, l2), (0, 0), (0, l4)]) (pc := 77) dX12_areAlike_77 rfl (Nat.le_of_ble_eq_true rfl) rfl ?_
        refine fr_iinc (z := w32 (l4 + 1)) (ls2 := [(2, 142), (0, l1), (0, l2), (0, 0), (0, w32 (l4 + 1))]) (pc := 78) dX12_areAlike_78 (Nat.le_of_ble_eq_true rfl) rfl rfl rfl ?_
        refine fr_goto (tg := 5) (pc := 81) dX12_areAlike_81 rfl ?_
        exact hq sc d hd
  · refine fr_iload_n (pc := 84) dX12_areAlike_84 rfl rfl ?_
    obtain ⟨hz7, hq⟩ := hq
    exact fr_iret (pc := 85) dX12_areAlike_85 (Or.inr (Or.inl ⟨rfl, hz7⟩)) hq
theorem k12_manyTests_r {a1 : Int} {M : pm_M} {K : Int → pm_M → Prop} (hq : k12_manyTests_4 a1 0 0 M K) : k12_manyTests a1 M K := by
  intro sc d hd
  refine fr_iconst (pc := 0) dX12_manyTests_0 (by decide) ?_
  refine fr_istore_n (ls2 := [(2, 142), (0, a1), (0, 0), (9, 0)]) (pc := 1) dX12_manyTests_1 rfl (Nat.le_of_ble_eq_true rfl) rfl ?_
  refine fr_iconst (pc := 2) dX12_manyTests_2 (by decide) ?_
  refine fr_istore_n (ls2 := [(2, 142), (0, a1), (0, 0), (0, 0)]) (pc := 3) dX12_manyTests_3 rfl (Nat.le_of_ble_eq_true rfl) rfl ?_
  exact hq sc d hd
theorem k12_manyTests_4_r {l1 l2 l3 : Int} {M : pm_M} {K : Int → pm_M → Prop} (hq : (if l3 < gI M 142 24 then ((0 ≤ w32 ((w32 (5 * l3)) + 4) ∧ w32 ((w32 (5 * l3)) + 4) < 80) ∧ (if gI M 154 (w32 ((w32 (5 * l3)) + 4)) = 1 then (if 1 = l1 then k12_manyTests_4 l1 (w32 (l2 + 1)) (w32 (l3 + 1)) M K else k12_manyTests_4 l1 (w32 (l2 + 0)) (w32 (l3 + 1)) M K) else (if 0 = l1 then k12_manyTests_4 l1 (w32 (l2 + 1)) (w32 (l3 + 1)) M K else k12_manyTests_4 l1 (w32 (l2 + 0)) (w32 (l3 + 1)) M K))) else K l2 M)) : k12_manyTests_4 l1 l2 l3 M K := by
  intro sc d hd
  refine fr_iload_n (pc := 4) dX12_manyTests_4 rfl rfl ?_
  refine fr_aload_n (pc := 5) dX12_manyTests_5 rfl rfl ?_
  refine fr_getf (a := 142) (i := 24) (v := gI M 142 24) (t := 0) (pc := 6) dX12_manyTests_6 rfl pf_12_246 rfl s0_142 rfl rfl ?_
  refine fr_icm_ge (tg := 35) (pc := 9) dX12_manyTests_9 rfl hq (fun hc1 hq => ?_) (fun hc1 hq => ?_)
  · refine fr_iload_n (pc := 12) dX12_manyTests_12 rfl rfl ?_
    refine fr_aload_n (pc := 13) dX12_manyTests_13 rfl rfl ?_
    refine fr_iload_n (pc := 14) dX12_manyTests_14 rfl rfl ?_
    refine fr_inVI (a := 142) (as := [(0, l3)]) (rest := [(0, l2)]) (ls' := [(2, 142), (0, l3)]) (c1 := 0) (c2 := 0) (pc := 15) dX12_manyTests_15 pl_12_323 rfl ⟨Nat.le_of_ble_eq_true rfl, Nat.le_of_ble_eq_true rfl⟩ rfl rfl rfl s0_142 (Nat.le_of_ble_eq_true rfl) (by omega) rfl rfl (pm_zc _) ?_ (fun y M' h => h)
    refine fr_aload_n (pc := 0) dX12_isHeld_0 rfl rfl ?_
    refine fr_getr (a := 142) (pc := 1) dX12_isHeld_1 rfl pf_12_44 s0_142 rfl rf_142_25 ?_
    refine fr_iconst (pc := 4) dX12_isHeld_4 (by decide) ?_
    refine fr_iload_n (pc := 5) dX12_isHeld_5 rfl rfl ?_
    refine fr_imul (z := w32 (5 * l3)) (pc := 6) dX12_isHeld_6 rfl ?_
    refine fr_iconst (pc := 7) dX12_isHeld_7 (by decide) ?_
    refine fr_iadd (z := w32 ((w32 (5 * l3)) + 4)) (pc := 8) dX12_isHeld_8 rfl ?_
    obtain ⟨hb2, hq⟩ := hq
    refine fr_iaload (a := 154) (v := gI M 154 (w32 ((w32 (5 * l3)) + 4))) (pc := 9) dX12_isHeld_9 rfl s0_154 hb2 rfl ?_
    refine fr_iconst (pc := 10) dX12_isHeld_10 (by decide) ?_
    refine fr_icm_ne (tg := 18) (pc := 11) dX12_isHeld_11 rfl hq (fun hc3 hq => ?_) (fun hc3 hq => ?_)
    · refine fr_iconst (pc := 14) dX12_isHeld_14 (by decide) ?_
      refine fr_goto (tg := 19) (pc := 15) dX12_isHeld_15 rfl ?_
      refine fr_iret (pc := 19) dX12_isHeld_19 (Or.inr (Or.inl ⟨rfl, Or.inr rfl⟩)) ?_
      refine fr_iload_n (pc := 18) dX12_manyTests_18 rfl rfl ?_
      refine fr_icm_ne (tg := 26) (pc := 19) dX12_manyTests_19 rfl hq (fun hc4 hq => ?_) (fun hc4 hq => ?_)
      · refine fr_iconst (pc := 22) dX12_manyTests_22 (by decide) ?_
        refine fr_goto (tg := 27) (pc := 23) dX12_manyTests_23 rfl ?_
        refine fr_iadd (z := w32 (l2 + 1)) (pc := 27) dX12_manyTests_27 rfl ?_
        refine fr_istore_n (ls2 := [(2, 142), (0, l1), (0, w32 (l2 + 1)), (0, l3)]) (pc := 28) dX12_manyTests_28 rfl (Nat.le_of_ble_eq_true rfl) rfl ?_
        refine fr_iinc (z := w32 (l3 + 1)) (ls2 := [(2, 142), (0, l1), (0, w32 (l2 + 1)), (0, w32 (l3 + 1))]) (pc := 29) dX12_manyTests_29 (Nat.le_of_ble_eq_true rfl) rfl rfl rfl ?_
        refine fr_goto (tg := 4) (pc := 32) dX12_manyTests_32 rfl ?_
        exact hq sc d hd
      · refine fr_iconst (pc := 26) dX12_manyTests_26 (by decide) ?_
        refine fr_iadd (z := w32 (l2 + 0)) (pc := 27) dX12_manyTests_27 rfl ?_
        refine fr_istore_n (ls2 := [(2, 142), (0, l1), (0, w32 (l2 + 0)), (0, l3)]) (pc := 28) dX12_manyTests_28 rfl (Nat.le_of_ble_eq_true rfl) rfl ?_
        refine fr_iinc (z := w32 (l3 + 1)) (ls2 := [(2, 142), (0, l1), (0, w32 (l2 + 0)), (0, w32 (l3 + 1))]) (pc := 29) dX12_manyTests_29 (Nat.le_of_ble_eq_true rfl) rfl rfl rfl ?_
        refine fr_goto (tg := 4) (pc := 32) dX12_manyTests_32 rfl ?_
        exact hq sc d hd
    · refine fr_iconst (pc := 18) dX12_isHeld_18 (by decide) ?_
      refine fr_iret (pc := 19) dX12_isHeld_19 (Or.inr (Or.inl ⟨rfl, Or.inl rfl⟩)) ?_
      refine fr_iload_n (pc := 18) dX12_manyTests_18 rfl rfl ?_
      refine fr_icm_ne (tg := 26) (pc := 19) dX12_manyTests_19 rfl hq (fun hc5 hq => ?_) (fun hc5 hq => ?_)
      · refine fr_iconst (pc := 22) dX12_manyTests_22 (by decide) ?_
        refine fr_goto (tg := 27) (pc := 23) dX12_manyTests_23 rfl ?_
        refine fr_iadd (z := w32 (l2 + 1)) (pc := 27) dX12_manyTests_27 rfl ?_
        refine fr_istore_n (ls2 := [(2, 142), (0, l1), (0, w32 (l2 + 1)), (0, l3)]) (pc := 28) dX12_manyTests_28 rfl (Nat.le_of_ble_eq_true rfl) rfl ?_
        refine fr_iinc (z := w32 (l3 + 1)) (ls2 := [(2, 142), (0, l1), (0, w32 (l2 + 1)), (0, w32 (l3 + 1))]) (pc := 29) dX12_manyTests_29 (Nat.le_of_ble_eq_true rfl) rfl rfl rfl ?_
        refine fr_goto (tg := 4) (pc := 32) dX12_manyTests_32 rfl ?_
        exact hq sc d hd
      · refine fr_iconst (pc := 26) dX12_manyTests_26 (by decide) ?_
        refine fr_iadd (z := w32 (l2 + 0)) (pc := 27) dX12_manyTests_27 rfl ?_
        refine fr_istore_n (ls2 := [(2, 142), (0, l1), (0, w32 (l2 + 0)), (0, l3)]) (pc := 28) dX12_manyTests_28 rfl (Nat.le_of_ble_eq_true rfl) rfl ?_
        refine fr_iinc (z := w32 (l3 + 1)) (ls2 := [(2, 142), (0, l1), (0, w32 (l2 + 0)), (0, w32 (l3 + 1))]) (pc := 29) dX12_manyTests_29 (Nat.le_of_ble_eq_true rfl) rfl rfl rfl ?_
        refine fr_goto (tg := 4) (pc := 32) dX12_manyTests_32 rfl ?_
        exact hq sc d hd
  · refine fr_iload_n (pc := 35) dX12_manyTests_35 rfl rfl ?_
    exact fr_iret (pc := 36) dX12_manyTests_36 (Or.inl rfl) hq
theorem k12_unlike_r {M : pm_M} {K : Int → pm_M → Prop} (hq : k12_laysMends (upI M 142 0 0) (fun M1 => k12_unlike_13 0 0 M1 K)) : k12_unlike M K := by
  intro sc d hd
  refine fr_aload_n (pc := 0) dX12_unlike_0 rfl rfl ?_
  refine fr_iconst (pc := 1) dX12_unlike_1 (by decide) ?_
  refine fr_put (a := 142) (i := 0) (pc := 2) dX12_unlike_2 rfl pf_12_121 rfl s0_142 rfl rfl nf_142_0 rfl ?_
  refine fr_aload_n (pc := 5) dX12_unlike_5 rfl rfl ?_
  refine fr_inVV (a := 142) (as := []) (rest := []) (ls' := [(2, 142), (9, 0), (9, 0), (9, 0)]) (c1 := 0) (c2 := 0) (pc := 6) dX12_unlike_6 pl_12_389 rfl ⟨Nat.le_of_ble_eq_true rfl, Nat.le_of_ble_eq_true rfl⟩ rfl rfl rfl s0_142 (Nat.le_of_ble_eq_true rfl) (by omega) rfl rfl (pm_zc _) (hq sc _ (by omega)) (fun M1 hq => ?_)
  refine fr_iconst (pc := 9) dX12_unlike_9 (by decide) ?_
  refine fr_istore_n (ls2 := [(2, 142), (0, 0), (9, 0)]) (pc := 10) dX12_unlike_10 rfl (Nat.le_of_ble_eq_true rfl) rfl ?_
  refine fr_iconst (pc := 11) dX12_unlike_11 (by decide) ?_
  refine fr_istore_n (ls2 := [(2, 142), (0, 0), (0, 0)]) (pc := 12) dX12_unlike_12 rfl (Nat.le_of_ble_eq_true rfl) rfl ?_
  exact hq sc d hd
theorem k12_unlike_13_r {l1 l2 : Int} {M : pm_M} {K : Int → pm_M → Prop} (hq : (if l2 < gI M 142 50 then ((0 ≤ l2 ∧ l2 < 800) ∧ (if gI M 168 l2 = l2 then k12_unlike_13 (w32 (l1 + 1)) (w32 (l2 + 1)) M K else k12_unlike_13 (w32 (l1 + 0)) (w32 (l2 + 1)) M K)) else K l1 M)) : k12_unlike_13 l1 l2 M K := by
  intro sc d hd
  refine fr_iload_n (pc := 13) dX12_unlike_13 rfl rfl ?_
  refine fr_aload_n (pc := 14) dX12_unlike_14 rfl rfl ?_
  refine fr_getf (a := 142) (i := 50) (v := gI M 142 50) (t := 0) (pc := 15) dX12_unlike_15 rfl pf_12_377 rfl s0_142 rfl rfl ?_
  refine fr_icm_ge (tg := 45) (pc := 18) dX12_unlike_18 rfl hq (fun hc1 hq => ?_) (fun hc1 hq => ?_)
  · refine fr_iload_n (pc := 21) dX12_unlike_21 rfl rfl ?_
    refine fr_aload_n (pc := 22) dX12_unlike_22 rfl rfl ?_
    refine fr_getr (a := 142) (pc := 23) dX12_unlike_23 rfl pf_12_93 s0_142 rfl rf_142_54 ?_
    refine fr_iload_n (pc := 26) dX12_unlike_26 rfl rfl ?_
    obtain ⟨hb2, hq⟩ := hq
    refine fr_iaload (a := 168) (v := gI M 168 l2) (pc := 27) dX12_unlike_27 rfl s0_168 hb2 rfl ?_
    refine fr_iload_n (pc := 28) dX12_unlike_28 rfl rfl ?_
    refine fr_icm_ne (tg := 36) (pc := 29) dX12_unlike_29 rfl hq (fun hc3 hq => ?_) (fun hc3 hq => ?_)
    · refine fr_iconst (pc := 32) dX12_unlike_32 (by decide) ?_
      refine fr_goto (tg := 37) (pc := 33) dX12_unlike_33 rfl ?_
      refine fr_iadd (z := w32 (l1 + 1)) (pc := 37) dX12_unlike_37 rfl ?_
      refine fr_istore_n (ls2 := [(2, 142), (0, w32 (l1 + 1)), (0, l2)]) (pc := 38) dX12_unlike_38 rfl (Nat.le_of_ble_eq_true rfl) rfl ?_
      refine fr_iinc (z := w32 (l2 + 1)) (ls2 := [(2, 142), (0, w32 (l1 + 1)), (0, w32 (l2 + 1))]) (pc := 39) dX12_unlike_39 (Nat.le_of_ble_eq_true rfl) rfl rfl rfl ?_
      refine fr_goto (tg := 13) (pc := 42) dX12_unlike_42 rfl ?_
      exact hq sc d hd
    · refine fr_iconst (pc := 36) dX12_unlike_36 (by decide) ?_
      refine fr_iadd (z := w32 (l1 + 0)) (pc := 37) dX12_unlike_37 rfl ?_
      refine fr_istore_n (ls2 := [(2, 142), (0, w32 (l1 + 0)), (0, l2)]) (pc := 38) dX12_unlike_38 rfl (Nat.le_of_ble_eq_true rfl) rfl ?_
      refine fr_iinc (z := w32 (l2 + 1)) (ls2 := [(2, 142), (0, w32 (l1 + 0)), (0, w32 (l2 + 1))]) (pc := 39) dX12_unlike_39 (Nat.le_of_ble_eq_true rfl) rfl rfl rfl ?_
      refine fr_goto (tg := 13) (pc := 42) dX12_unlike_42 rfl ?_
      exact hq sc d hd
  · refine fr_iload_n (pc := 45) dX12_unlike_45 rfl rfl ?_
    exact fr_iret (pc := 46) dX12_unlike_46 (Or.inl rfl) hq
theorem k12_best_r {M : pm_M} {K : Int → pm_M → Prop} (hq : k12_laysMends (upI M 142 0 0) (fun M1 => k12_best_13 (-1) 0 M1 K)) : k12_best M K := by
  intro sc d hd
  refine fr_aload_n (pc := 0) dX12_best_0 rfl rfl ?_
  refine fr_iconst (pc := 1) dX12_best_1 (by decide) ?_
  refine fr_put (a := 142) (i := 0) (pc := 2) dX12_best_2 rfl pf_12_121 rfl s0_142 rfl rfl nf_142_0 rfl ?_
  refine fr_aload_n (pc := 5) dX12_best_5 rfl rfl ?_
  refine fr_inVV (a := 142) (as := []) (rest := []) (ls' := [(2, 142), (9, 0), (9, 0), (9, 0)]) (c1 := 0) (c2 := 0) (pc := 6) dX12_best_6 pl_12_389 rfl ⟨Nat.le_of_ble_eq_true rfl, Nat.le_of_ble_eq_true rfl⟩ rfl rfl rfl s0_142 (Nat.le_of_ble_eq_true rfl) (by omega) rfl rfl (pm_zc _) (hq sc _ (by omega)) (fun M1 hq => ?_)
  refine fr_iconst (pc := 9) dX12_best_9 (by decide) ?_
  refine fr_istore_n (ls2 := [(2, 142), (0, (-1)), (9, 0)]) (pc := 10) dX12_best_10 rfl (Nat.le_of_ble_eq_true rfl) rfl ?_
  refine fr_iconst (pc := 11) dX12_best_11 (by decide) ?_
  refine fr_istore_n (ls2 := [(2, 142), (0, (-1)), (0, 0)]) (pc := 12) dX12_best_12 rfl (Nat.le_of_ble_eq_true rfl) rfl ?_
  exact hq sc d hd
theorem k12_best_13_r {l1 l2 : Int} {M : pm_M} {K : Int → pm_M → Prop} (hq : (if l2 < gI M 142 50 then (if l1 = (-1) then k12_best_13 l2 (w32 (l2 + 1)) M K else ((0 ≤ l2 ∧ l2 < 800) ∧ ((0 ≤ l1 ∧ l1 < 800) ∧ (if gI M 167 l2 ≤ gI M 167 l1 then k12_best_13 l1 (w32 (l2 + 1)) M K else k12_best_13 l2 (w32 (l2 + 1)) M K)))) else K l1 M)) : k12_best_13 l1 l2 M K := by
  intro sc d hd
  refine fr_iload_n (pc := 13) dX12_best_13 rfl rfl ?_
  refine fr_aload_n (pc := 14) dX12_best_14 rfl rfl ?_
  refine fr_getf (a := 142) (i := 50) (v := gI M 142 50) (t := 0) (pc := 15) dX12_best_15 rfl pf_12_377 rfl s0_142 rfl rfl ?_
  refine fr_icm_ge (tg := 53) (pc := 18) dX12_best_18 rfl hq (fun hc1 hq => ?_) (fun hc1 hq => ?_)
  · refine fr_iload_n (pc := 21) dX12_best_21 rfl rfl ?_
    refine fr_iconst (pc := 22) dX12_best_22 (by decide) ?_
    refine fr_icm_eq (tg := 41) (pc := 23) dX12_best_23 rfl hq (fun hc2 hq => ?_) (fun hc2 hq => ?_)
    · refine fr_iload_n (pc := 41) dX12_best_41 rfl rfl ?_
      refine fr_goto (tg := 46) (pc := 42) dX12_best_42 rfl ?_
      refine fr_istore_n (ls2 := [(2, 142), (0, l2), (0, l2)]) (pc := 46) dX12_best_46 rfl (Nat.le_of_ble_eq_true rfl) rfl ?_
      refine fr_iinc (z := w32 (l2 + 1)) (ls2 := [(2, 142), (0, l2), (0, w32 (l2 + 1))]) (pc := 47) dX12_best_47 (Nat.le_of_ble_eq_true rfl) rfl rfl rfl ?_
      refine fr_goto (tg := 13) (pc := 50) dX12_best_50 rfl ?_
      exact hq sc d hd
    · refine fr_aload_n (pc := 26) dX12_best_26 rfl rfl ?_
      refine fr_getr (a := 142) (pc := 27) dX12_best_27 rfl pf_12_90 s0_142 rfl rf_142_53 ?_
      refine fr_iload_n (pc := 30) dX12_best_30 rfl rfl ?_
      obtain ⟨hb3, hq⟩ := hq
      refine fr_iaload (a := 167) (v := gI M 167 l2) (pc := 31) dX12_best_31 rfl s0_167 hb3 rfl ?_
      refine fr_aload_n (pc := 32) dX12_best_32 rfl rfl ?_
      refine fr_getr (a := 142) (pc := 33) dX12_best_33 rfl pf_12_90 s0_142 rfl rf_142_53 ?_
      refine fr_iload_n (pc := 36) dX12_best_36 rfl rfl ?_
      obtain ⟨hb4, hq⟩ := hq
      refine fr_iaload (a := 167) (v := gI M 167 l1) (pc := 37) dX12_best_37 rfl s0_167 hb4 rfl ?_
      refine fr_icm_le (tg := 45) (pc := 38) dX12_best_38 rfl hq (fun hc5 hq => ?_) (fun hc5 hq => ?_)
      · refine fr_iload_n (pc := 45) dX12_best_45 rfl rfl ?_
        refine fr_istore_n (ls2 := [(2, 142), (0, l1), (0, l2)]) (pc := 46) dX12_best_46 rfl (Nat.le_of_ble_eq_true rfl) rfl ?_
        refine fr_iinc (z := w32 (l2 + 1)) (ls2 := [(2, 142), (0, l1), (0, w32 (l2 + 1))]) (pc := 47) dX12_best_47 (Nat.le_of_ble_eq_true rfl) rfl rfl rfl ?_
        refine fr_goto (tg := 13) (pc := 50) dX12_best_50 rfl ?_
        exact hq sc d hd
      · refine fr_iload_n (pc := 41) dX12_best_41 rfl rfl ?_
        refine fr_goto (tg := 46) (pc := 42) dX12_best_42 rfl ?_
        refine fr_istore_n (ls2 := [(2, 142), (0, l2), (0, l2)]) (pc := 46) dX12_best_46 rfl (Nat.le_of_ble_eq_true rfl) rfl ?_
        refine fr_iinc (z := w32 (l2 + 1)) (ls2 := [(2, 142), (0, l2), (0, w32 (l2 + 1))]) (pc := 47) dX12_best_47 (Nat.le_of_ble_eq_true rfl) rfl rfl rfl ?_
        refine fr_goto (tg := 13) (pc := 50) dX12_best_50 rfl ?_
        exact hq sc d hd
  · refine fr_iload_n (pc := 53) dX12_best_53 rfl rfl ?_
    exact fr_iret (pc := 54) dX12_best_54 (Or.inl rfl) hq
theorem k12_pair_r {a1 : Int} {M : pm_M} {K : Int → pm_M → Prop} (hq : (if a1 < 0 then K (-1) (upI M 142 0 0) else (if a1 ≤ 4 then k12_findsPair (upI M 142 0 0) (fun r4 M3 => (if r4 = 0 then K (-2) M3 else ((0 ≤ a1 ∧ a1 < 5) ∧ K (gI M3 172 a1) M3))) else K (-1) (upI M 142 0 0)))) : k12_pair a1 M K := by
  intro sc d hd
  refine fr_aload_n (pc := 0) dX12_pair_0 rfl rfl ?_
  refine fr_iconst (pc := 1) dX12_pair_1 (by decide) ?_
  refine fr_put (a := 142) (i := 0) (pc := 2) dX12_pair_2 rfl pf_12_121 rfl s0_142 rfl rfl nf_142_0 rfl ?_
  refine fr_iload_n (pc := 5) dX12_pair_5 rfl rfl ?_
  refine fr_iconst (pc := 6) dX12_pair_6 (by decide) ?_
  refine fr_iconst (pc := 7) dX12_pair_7 (by decide) ?_
  refine fr_inSI (as := [(0, a1), (0, 0), (0, 4)]) (rest := []) (ls' := [(0, a1), (0, 0), (0, 4)]) (c1 := 0) (c2 := 0) (pc := 8) dX12_pair_8 pl_12_147 rfl ⟨Nat.le_of_ble_eq_true rfl, Nat.le_of_ble_eq_true rfl⟩ rfl rfl  (by omega) rfl rfl (pm_zc _) ?_ (fun y M' h => h)
  refine fr_iload_n (pc := 0) dX12_within_0 rfl rfl ?_
  refine fr_iload_n (pc := 1) dX12_within_1 rfl rfl ?_
  refine fr_icm_lt (tg := 14) (pc := 2) dX12_within_2 rfl hq (fun hc1 hq => ?_) (fun hc1 hq => ?_)
  · refine fr_iconst (pc := 14) dX12_within_14 (by decide) ?_
    refine fr_iret (pc := 15) dX12_within_15 (Or.inr (Or.inl ⟨rfl, Or.inl rfl⟩)) ?_
    refine fr_ifcF (tg := 16) (pc := 11) dX12_pair_11 rfl rfl ?_
    refine fr_iconst (pc := 14) dX12_pair_14 (by decide) ?_
    exact fr_iret (pc := 15) dX12_pair_15 (Or.inl rfl) hq
  · refine fr_iload_n (pc := 5) dX12_within_5 rfl rfl ?_
    refine fr_iload_n (pc := 6) dX12_within_6 rfl rfl ?_
    refine fr_icm_gt (tg := 14) (pc := 7) dX12_within_7 rfl hq (fun hc2 hq => ?_) (fun hc2 hq => ?_)
    · refine fr_iconst (pc := 10) dX12_within_10 (by decide) ?_
      refine fr_goto (tg := 15) (pc := 11) dX12_within_11 rfl ?_
      refine fr_iret (pc := 15) dX12_within_15 (Or.inr (Or.inl ⟨rfl, Or.inr rfl⟩)) ?_
      refine fr_ifcT (tg := 16) (pc := 11) dX12_pair_11 rfl rfl ?_
      refine fr_aload_n (pc := 16) dX12_pair_16 rfl rfl ?_
      refine fr_inVI (a := 142) (as := []) (rest := []) (ls' := [(2, 142), (9, 0), (9, 0), (9, 0), (9, 0)]) (c1 := 0) (c2 := 0) (pc := 17) dX12_pair_17 pl_12_398 rfl ⟨Nat.le_of_ble_eq_true rfl, Nat.le_of_ble_eq_true rfl⟩ rfl rfl rfl s0_142 (Nat.le_of_ble_eq_true rfl) (by omega) rfl rfl (pm_zc _) (hq sc _ (by omega)) (fun r4 M3 hq => ?_)
      refine fr_ifc_eq (tg := 32) (pc := 20) dX12_pair_20 rfl hq (fun hc5 hq => ?_) (fun hc5 hq => ?_)
      · refine fr_bipush (pc := 32) dX12_pair_32 (by decide) ?_
        exact fr_iret (pc := 34) dX12_pair_34 (Or.inl rfl) hq
      · refine fr_aload_n (pc := 23) dX12_pair_23 rfl rfl ?_
        refine fr_getr (a := 142) (pc := 24) dX12_pair_24 rfl pf_12_106 s0_142 rfl rf_142_58 ?_
        refine fr_iload_n (pc := 27) dX12_pair_27 rfl rfl ?_
        obtain ⟨hb6, hq⟩ := hq
        refine fr_iaload (a := 172) (v := gI M3 172 a1) (pc := 28) dX12_pair_28 rfl s0_172 hb6 rfl ?_
        refine fr_goto (tg := 34) (pc := 29) dX12_pair_29 rfl ?_
        exact fr_iret (pc := 34) dX12_pair_34 (Or.inl rfl) hq
    · refine fr_iconst (pc := 14) dX12_within_14 (by decide) ?_
      refine fr_iret (pc := 15) dX12_within_15 (Or.inr (Or.inl ⟨rfl, Or.inl rfl⟩)) ?_
      refine fr_ifcF (tg := 16) (pc := 11) dX12_pair_11 rfl rfl ?_
      refine fr_iconst (pc := 14) dX12_pair_14 (by decide) ?_
      exact fr_iret (pc := 15) dX12_pair_15 (Or.inl rfl) hq
theorem k12_findsPair_r {M : pm_M} {K : Int → pm_M → Prop} (hq : k12_laysMends M (fun M1 => (if gI M1 142 50 ≤ 0 then k12_allPass M1 (fun r5 M4 => (if r5 = 0 then k12_laysRanked 1 M4 (fun r8 M7 => k12_findsPair_28 r8 0 M7 K) else K 0 M4)) else K 0 M1))) : k12_findsPair M K := by
  intro sc d hd
  refine fr_aload_n (pc := 0) dX12_findsPair_0 rfl rfl ?_
  refine fr_inVV (a := 142) (as := []) (rest := []) (ls' := [(2, 142), (9, 0), (9, 0), (9, 0)]) (c1 := 0) (c2 := 0) (pc := 1) dX12_findsPair_1 pl_12_389 rfl ⟨Nat.le_of_ble_eq_true rfl, Nat.le_of_ble_eq_true rfl⟩ rfl rfl rfl s0_142 (Nat.le_of_ble_eq_true rfl) (by omega) rfl rfl (pm_zc _) (hq sc _ (by omega)) (fun M1 hq => ?_)
  refine fr_aload_n (pc := 4) dX12_findsPair_4 rfl rfl ?_
  refine fr_getf (a := 142) (i := 50) (v := gI M1 142 50) (t := 0) (pc := 5) dX12_findsPair_5 rfl pf_12_377 rfl s0_142 rfl rfl ?_
  refine fr_ifc_gt (tg := 18) (pc := 8) dX12_findsPair_8 rfl hq (fun hc3 hq => ?_) (fun hc3 hq => ?_)
  · refine fr_aload_n (pc := 11) dX12_findsPair_11 rfl rfl ?_
    refine fr_inVI (a := 142) (as := []) (rest := []) (ls' := [(2, 142), (9, 0)]) (c1 := 0) (c2 := 0) (pc := 12) dX12_findsPair_12 pl_12_364 rfl ⟨Nat.le_of_ble_eq_true rfl, Nat.le_of_ble_eq_true rfl⟩ rfl rfl rfl s0_142 (Nat.le_of_ble_eq_true rfl) (by omega) rfl rfl (pm_zc _) (hq sc _ (by omega)) (fun r5 M4 hq => ?_)
    refine fr_ifc_eq (tg := 20) (pc := 15) dX12_findsPair_15 rfl hq (fun hc6 hq => ?_) (fun hc6 hq => ?_)
    · refine fr_aload_n (pc := 20) dX12_findsPair_20 rfl rfl ?_
      refine fr_iconst (pc := 21) dX12_findsPair_21 (by decide) ?_
      refine fr_inVI (a := 142) (as := [(0, 1)]) (rest := []) (ls' := [(2, 142), (0, 1), (9, 0), (9, 0), (9, 0)]) (c1 := 0) (c2 := 0) (pc := 22) dX12_findsPair_22 pl_12_342 rfl ⟨Nat.le_of_ble_eq_true rfl, Nat.le_of_ble_eq_true rfl⟩ rfl rfl rfl s0_142 (Nat.le_of_ble_eq_true rfl) (by omega) rfl rfl (pm_zc _) (hq sc _ (by omega)) (fun r8 M7 hq => ?_)
      refine fr_istore_n (ls2 := [(2, 142), (0, r8), (9, 0), (9, 0), (9, 0)]) (pc := 25) dX12_findsPair_25 rfl (Nat.le_of_ble_eq_true rfl) rfl ?_
      refine fr_iconst (pc := 26) dX12_findsPair_26 (by decide) ?_
      refine fr_istore_n (ls2 := [(2, 142), (0, r8), (0, 0), (9, 0), (9, 0)]) (pc := 27) dX12_findsPair_27 rfl (Nat.le_of_ble_eq_true rfl) rfl ?_
      exact hq sc d hd (9, 0) pm_t9 (9, 0) pm_t9
    · refine fr_iconst (pc := 18) dX12_findsPair_18 (by decide) ?_
      exact fr_iret (pc := 19) dX12_findsPair_19 (Or.inr (Or.inl ⟨rfl, Or.inl rfl⟩)) hq
  · refine fr_iconst (pc := 18) dX12_findsPair_18 (by decide) ?_
    exact fr_iret (pc := 19) dX12_findsPair_19 (Or.inr (Or.inl ⟨rfl, Or.inl rfl⟩)) hq
theorem k12_findsPair_28_r {l1 l2 : Int} {M : pm_M} {K : Int → pm_M → Prop} (hq : (if l2 < gI M 144 0 then ((0 ≤ l2 ∧ l2 < 60) ∧ k12_findsPair_47 l1 l2 0 (upI M 171 l2 0) K) else k12_findsPair_106 0 M K)) : k12_findsPair_28 l1 l2 M K := by
  intro sc d hd z3 hz3 z4 hz4
  refine fr_iload_n (pc := 28) dX12_findsPair_28 rfl rfl ?_
  refine fr_aload_n (pc := 29) dX12_findsPair_29 rfl rfl ?_
  refine fr_getr (a := 142) (pc := 30) dX12_findsPair_30 rfl pf_12_13 s0_142 rfl rf_142_9 ?_
  refine fr_iconst (pc := 33) dX12_findsPair_33 (by decide) ?_
  refine fr_iaload (a := 144) (v := gI M 144 0) (pc := 34) dX12_findsPair_34 rfl s0_144 (by decide) rfl ?_
  refine fr_icm_ge (tg := 104) (pc := 35) dX12_findsPair_35 rfl hq (fun hc1 hq => ?_) (fun hc1 hq => ?_)
  · refine fr_aload_n (pc := 38) dX12_findsPair_38 rfl rfl ?_
    refine fr_getr (a := 142) (pc := 39) dX12_findsPair_39 rfl pf_12_102 s0_142 rfl rf_142_57 ?_
    refine fr_iload_n (pc := 42) dX12_findsPair_42 rfl rfl ?_
    refine fr_iconst (pc := 43) dX12_findsPair_43 (by decide) ?_
    obtain ⟨hb2, hq⟩ := hq
    refine fr_zastore (a := 171) (pc := 44) dX12_findsPair_44 rfl s0_171 hb2 nr_171 (by decide) ?_
    refine fr_iconst (pc := 45) dX12_findsPair_45 (by decide) ?_
    refine fr_istore_n (ls2 := [(2, 142), (0, l1), (0, l2), (0, 0), z4]) (pc := 46) dX12_findsPair_46 rfl (Nat.le_of_ble_eq_true rfl) rfl ?_
    exact hq sc d hd z4 hz4
  · refine fr_iconst (pc := 104) dX12_findsPair_104 (by decide) ?_
    refine fr_istore_n (ls2 := [(2, 142), (0, l1), (0, 0), z3, z4]) (pc := 105) dX12_findsPair_105 rfl (Nat.le_of_ble_eq_true rfl) rfl ?_
    exact hq sc d hd (0, l1) pm_t0 z3 hz3 z4 hz4
theorem k12_findsPair_47_r {l1 l2 l3 : Int} {M : pm_M} {K : Int → pm_M → Prop} (hq : (if l3 < l1 then (if l3 < 6 then ((0 ≤ l2 ∧ l2 < 60) ∧ (if gI M 171 l2 = 0 then k12_statementOf l2 M (fun r6 M5 => ((0 ≤ l3 ∧ l3 < 20) ∧ (if r6 = gI M5 161 l3 then k12_findsPair_47 l1 l2 (w32 (l3 + 1)) (upI M5 171 l2 1) K else k12_findsPair_47 l1 l2 (w32 (l3 + 1)) (upI M5 171 l2 0) K))) else k12_findsPair_47 l1 l2 (w32 (l3 + 1)) (upI M 171 l2 1) K)) else k12_findsPair_28 l1 (w32 (l2 + 1)) M K) else k12_findsPair_28 l1 (w32 (l2 + 1)) M K)) : k12_findsPair_47 l1 l2 l3 M K := by
  intro sc d hd z4 hz4
  refine fr_iload_n (pc := 47) dX12_findsPair_47 rfl rfl ?_
  refine fr_iload_n (pc := 48) dX12_findsPair_48 rfl rfl ?_
  refine fr_icm_ge (tg := 98) (pc := 49) dX12_findsPair_49 rfl hq (fun hc1 hq => ?_) (fun hc1 hq => ?_)
  · refine fr_iload_n (pc := 52) dX12_findsPair_52 rfl rfl ?_
    refine fr_bipush (pc := 53) dX12_findsPair_53 (by decide) ?_
    refine fr_icm_ge (tg := 98) (pc := 55) dX12_findsPair_55 rfl hq (fun hc2 hq => ?_) (fun hc2 hq => ?_)
    · refine fr_aload_n (pc := 58) dX12_findsPair_58 rfl rfl ?_
      refine fr_getr (a := 142) (pc := 59) dX12_findsPair_59 rfl pf_12_102 s0_142 rfl rf_142_57 ?_
      refine fr_iload_n (pc := 62) dX12_findsPair_62 rfl rfl ?_
      refine fr_aload_n (pc := 63) dX12_findsPair_63 rfl rfl ?_
      refine fr_getr (a := 142) (pc := 64) dX12_findsPair_64 rfl pf_12_102 s0_142 rfl rf_142_57 ?_
      refine fr_iload_n (pc := 67) dX12_findsPair_67 rfl rfl ?_
      obtain ⟨hb3, hq⟩ := hq
      refine fr_baload (a := 171) (v := gI M 171 l2) (pc := 68) dX12_findsPair_68 rfl s0_171 hb3 (Or.inr rfl) rfl ?_
      refine fr_ifc_ne (tg := 86) (pc := 69) dX12_findsPair_69 rfl hq (fun hc4 hq => ?_) (fun hc4 hq => ?_)
      · refine fr_aload_n (pc := 72) dX12_findsPair_72 rfl rfl ?_
        refine fr_iload_n (pc := 73) dX12_findsPair_73 rfl rfl ?_
        refine fr_inVI (a := 142) (as := [(0, l2)]) (rest := [(0, l2), (2, 171)]) (ls' := [(2, 142), (0, l2), (9, 0)]) (c1 := 0) (c2 := 0) (pc := 74) dX12_findsPair_74 pl_12_311 rfl ⟨Nat.le_of_ble_eq_true rfl, Nat.le_of_ble_eq_true rfl⟩ rfl rfl rfl s0_142 (Nat.le_of_ble_eq_true rfl) (by omega) rfl rfl (pm_zc _) (hq sc _ (by omega)) (fun r6 M5 hq => ?_)
        refine fr_aload_n (pc := 77) dX12_findsPair_77 rfl rfl ?_
        refine fr_getr (a := 142) (pc := 78) dX12_findsPair_78 rfl pf_12_72 s0_142 rfl rf_142_44 ?_
        refine fr_iload_n (pc := 81) dX12_findsPair_81 rfl rfl ?_
        obtain ⟨hb7, hq⟩ := hq
        refine fr_iaload (a := 161) (v := gI M5 161 l3) (pc := 82) dX12_findsPair_82 rfl s0_161 hb7 rfl ?_
        refine fr_icm_ne (tg := 90) (pc := 83) dX12_findsPair_83 rfl hq (fun hc8 hq => ?_) (fun hc8 hq => ?_)
        · refine fr_iconst (pc := 86) dX12_findsPair_86 (by decide) ?_
          refine fr_goto (tg := 91) (pc := 87) dX12_findsPair_87 rfl ?_
          refine fr_zastore (a := 171) (pc := 91) dX12_findsPair_91 rfl s0_171 hb3 nr_171 (by decide) ?_
          refine fr_iinc (z := w32 (l3 + 1)) (ls2 := [(2, 142), (0, l1), (0, l2), (0, w32 (l3 + 1)), z4]) (pc := 92) dX12_findsPair_92 (Nat.le_of_ble_eq_true rfl) rfl rfl rfl ?_
          refine fr_goto (tg := 47) (pc := 95) dX12_findsPair_95 rfl ?_
          exact hq sc d hd z4 hz4
        · refine fr_iconst (pc := 90) dX12_findsPair_90 (by decide) ?_
          refine fr_zastore (a := 171) (pc := 91) dX12_findsPair_91 rfl s0_171 hb3 nr_171 (by decide) ?_
          refine fr_iinc (z := w32 (l3 + 1)) (ls2 := [(2, 142), (0, l1), (0, l2), (0, w32 (l3 + 1)), z4]) (pc := 92) dX12_findsPair_92 (Nat.le_of_ble_eq_true rfl) rfl rfl rfl ?_
          refine fr_goto (tg := 47) (pc := 95) dX12_findsPair_95 rfl ?_
          exact hq sc d hd z4 hz4
      · refine fr_iconst (pc := 86) dX12_findsPair_86 (by decide) ?_
        refine fr_goto (tg := 91) (pc := 87) dX12_findsPair_87 rfl ?_
        refine fr_zastore (a := 171) (pc := 91) dX12_findsPair_91 rfl s0_171 hb3 nr_171 (by decide) ?_
        refine fr_iinc (z := w32 (l3 + 1)) (ls2 := [(2, 142), (0, l1), (0, l2), (0, w32 (l3 + 1)), z4]) (pc := 92) dX12_findsPair_92 (Nat.le_of_ble_eq_true rfl) rfl rfl rfl ?_
        refine fr_goto (tg := 47) (pc := 95) dX12_findsPair_95 rfl ?_
        exact hq sc d hd z4 hz4
    · refine fr_iinc (z := w32 (l2 + 1)) (ls2 := [(2, 142), (0, l1), (0, w32 (l2 + 1)), (0, l3), z4]) (pc := 98) dX12_findsPair_98 (Nat.le_of_ble_eq_true rfl) rfl rfl rfl ?_
      refine fr_goto (tg := 28) (pc := 101) dX12_findsPair_101 rfl ?_
      exact hq sc d hd (0, l3) pm_t0 z4 hz4
  · refine fr_iinc (z := w32 (l2 + 1)) (ls2 := [(2, 142), (0, l1), (0, w32 (l2 + 1)), (0, l3), z4]) (pc := 98) dX12_findsPair_98 (Nat.le_of_ble_eq_true rfl) rfl rfl rfl ?_
    refine fr_goto (tg := 28) (pc := 101) dX12_findsPair_101 rfl ?_
    exact hq sc d hd (0, l3) pm_t0 z4 hz4
theorem k12_findsPair_106_r {l2 : Int} {M : pm_M} {K : Int → pm_M → Prop} (hq : (if l2 < gI M 144 0 then ((0 ≤ l2 ∧ l2 < 60) ∧ (if gI M 171 l2 = 0 then k12_findsPair_106 (w32 (l2 + 1)) M K else k12_changesOf l2 M (fun r5 M4 => k12_findsPair_134 l2 r5 0 M4 K))) else K 0 M)) : k12_findsPair_106 l2 M K := by
  intro sc d hd z1 hz1 z3 hz3 z4 hz4
  refine fr_iload_n (pc := 106) dX12_findsPair_106 rfl rfl ?_
  refine fr_aload_n (pc := 107) dX12_findsPair_107 rfl rfl ?_
  refine fr_getr (a := 142) (pc := 108) dX12_findsPair_108 rfl pf_12_13 s0_142 rfl rf_142_9 ?_
  refine fr_iconst (pc := 111) dX12_findsPair_111 (by decide) ?_
  refine fr_iaload (a := 144) (v := gI M 144 0) (pc := 112) dX12_findsPair_112 rfl s0_144 (by decide) rfl ?_
  refine fr_icm_ge (tg := 164) (pc := 113) dX12_findsPair_113 rfl hq (fun hc1 hq => ?_) (fun hc1 hq => ?_)
  · refine fr_aload_n (pc := 116) dX12_findsPair_116 rfl rfl ?_
    refine fr_getr (a := 142) (pc := 117) dX12_findsPair_117 rfl pf_12_102 s0_142 rfl rf_142_57 ?_
    refine fr_iload_n (pc := 120) dX12_findsPair_120 rfl rfl ?_
    obtain ⟨hb2, hq⟩ := hq
    refine fr_baload (a := 171) (v := gI M 171 l2) (pc := 121) dX12_findsPair_121 rfl s0_171 hb2 (Or.inr rfl) rfl ?_
    refine fr_ifc_eq (tg := 158) (pc := 122) dX12_findsPair_122 rfl hq (fun hc3 hq => ?_) (fun hc3 hq => ?_)
    · refine fr_iinc (z := w32 (l2 + 1)) (ls2 := [(2, 142), z1, (0, w32 (l2 + 1)), z3, z4]) (pc := 158) dX12_findsPair_158 (Nat.le_of_ble_eq_true rfl) rfl rfl (pm_st1z hz1 rfl rfl) ?_
      refine fr_goto (tg := 106) (pc := 161) dX12_findsPair_161 rfl ?_
      exact hq sc d hd z1 hz1 z3 hz3 z4 hz4
    · refine fr_aload_n (pc := 125) dX12_findsPair_125 rfl rfl ?_
      refine fr_iload_n (pc := 126) dX12_findsPair_126 rfl rfl ?_
      refine fr_inVI (a := 142) (as := [(0, l2)]) (rest := []) (ls' := [(2, 142), (0, l2), (9, 0)]) (c1 := 0) (c2 := 0) (pc := 127) dX12_findsPair_127 pl_12_361 rfl ⟨Nat.le_of_ble_eq_true rfl, Nat.le_of_ble_eq_true rfl⟩ rfl rfl rfl s0_142 (Nat.le_of_ble_eq_true rfl) (by omega) rfl rfl (pm_zc _) (hq sc _ (by omega)) (fun r5 M4 hq => ?_)
      refine fr_istore_n (ls2 := [(2, 142), z1, (0, l2), (0, r5), z4]) (pc := 130) dX12_findsPair_130 rfl (Nat.le_of_ble_eq_true rfl) rfl ?_
      refine fr_iconst (pc := 131) dX12_findsPair_131 (by decide) ?_
      refine fr_istore (ls2 := [(2, 142), z1, (0, l2), (0, r5), (0, 0)]) (pc := 132) dX12_findsPair_132 rfl (Nat.le_of_ble_eq_true rfl) rfl ?_
      exact hq sc d hd z1 hz1
  · refine fr_iconst (pc := 164) dX12_findsPair_164 (by decide) ?_
    exact fr_iret (pc := 165) dX12_findsPair_165 (Or.inr (Or.inl ⟨rfl, Or.inl rfl⟩)) hq
theorem k12_findsPair_134_r {l2 l3 l4 : Int} {M : pm_M} {K : Int → pm_M → Prop} (hq : (if l4 < l3 then k12_findsOther l2 l4 M (fun r3 M2 => (if r3 = 0 then k12_findsPair_134 l2 l3 (w32 (l4 + 1)) M2 K else K 1 M2)) else k12_findsPair_106 (w32 (l2 + 1)) M K)) : k12_findsPair_134 l2 l3 l4 M K := by
  intro sc d hd z1 hz1
  refine fr_iload (pc := 134) dX12_findsPair_134 rfl rfl ?_
  refine fr_iload_n (pc := 136) dX12_findsPair_136 rfl rfl ?_
  refine fr_icm_ge (tg := 158) (pc := 137) dX12_findsPair_137 rfl hq (fun hc1 hq => ?_) (fun hc1 hq => ?_)
  · refine fr_aload_n (pc := 140) dX12_findsPair_140 rfl rfl ?_
    refine fr_iload_n (pc := 141) dX12_findsPair_141 rfl rfl ?_
    refine fr_iload (pc := 142) dX12_findsPair_142 rfl rfl ?_
    refine fr_inVI (a := 142) (as := [(0, l2), (0, l4)]) (rest := []) (ls' := [(2, 142), (0, l2), (0, l4), (9, 0), (9, 0), (9, 0), (9, 0), (9, 0), (9, 0)]) (c1 := 0) (c2 := 0) (pc := 144) dX12_findsPair_144 pl_12_395 rfl ⟨Nat.le_of_ble_eq_true rfl, Nat.le_of_ble_eq_true rfl⟩ rfl rfl rfl s0_142 (Nat.le_of_ble_eq_true rfl) (by omega) rfl rfl (pm_zc _) (hq sc _ (by omega)) (fun r3 M2 hq => ?_)
    refine fr_ifc_eq (tg := 152) (pc := 147) dX12_findsPair_147 rfl hq (fun hc4 hq => ?_) (fun hc4 hq => ?_)
    · refine fr_iinc (z := w32 (l4 + 1)) (ls2 := [(2, 142), z1, (0, l2), (0, l3), (0, w32 (l4 + 1))]) (pc := 152) dX12_findsPair_152 (Nat.le_of_ble_eq_true rfl) rfl rfl rfl ?_
      refine fr_goto (tg := 134) (pc := 155) dX12_findsPair_155 rfl ?_
      exact hq sc d hd z1 hz1
    · refine fr_iconst (pc := 150) dX12_findsPair_150 (by decide) ?_
      exact fr_iret (pc := 151) dX12_findsPair_151 (Or.inr (Or.inl ⟨rfl, Or.inr rfl⟩)) hq
  · refine fr_iinc (z := w32 (l2 + 1)) (ls2 := [(2, 142), z1, (0, w32 (l2 + 1)), (0, l3), (0, l4)]) (pc := 158) dX12_findsPair_158 (Nat.le_of_ble_eq_true rfl) rfl rfl (pm_st1z hz1 rfl rfl) ?_
    refine fr_goto (tg := 106) (pc := 161) dX12_findsPair_161 rfl ?_
    exact hq sc d hd z1 hz1 (0, l3) pm_t0 (0, l4) pm_t0
theorem k12_findsOther_r {a1 a2 : Int} {M : pm_M} {K : Int → pm_M → Prop} (hq : k12_findsOther_4 a1 a2 (w32 (a1 + 1)) M K) : k12_findsOther a1 a2 M K := by
  intro sc d hd
  refine fr_iload_n (pc := 0) dX12_findsOther_0 rfl rfl ?_
  refine fr_iconst (pc := 1) dX12_findsOther_1 (by decide) ?_
  refine fr_iadd (z := w32 (a1 + 1)) (pc := 2) dX12_findsOther_2 rfl ?_
  refine fr_istore_n (ls2 := [(2, 142), (0, a1), (0, a2), (0, w32 (a1 + 1)), (9, 0), (9, 0), (9, 0), (9, 0), (9, 0)]) (pc := 3) dX12_findsOther_3 rfl (Nat.le_of_ble_eq_true rfl) rfl ?_
  exact hq sc d hd (9, 0) pm_t9 (9, 0) pm_t9 (9, 0) pm_t9 (9, 0) pm_t9 (9, 0) pm_t9
theorem k12_findsOther_4_r {l1 l2 l3 : Int} {M : pm_M} {K : Int → pm_M → Prop} (hq : (if l3 < gI M 144 0 then ((0 ≤ l3 ∧ l3 < 60) ∧ (if gI M 171 l3 = 0 then k12_findsOther_4 l1 l2 (w32 (l3 + 1)) (upI M 173 l3 0) K else k12_changesOf l3 M (fun r5 M4 => k12_findsOther_4 l1 l2 (w32 (l3 + 1)) (upI M4 173 l3 r5) K))) else k12_findsOther_48 l1 l2 (w32 (l1 + 1)) M K)) : k12_findsOther_4 l1 l2 l3 M K := by
  intro sc d hd z4 hz4 z5 hz5 z6 hz6 z7 hz7 z8 hz8
  refine fr_iload_n (pc := 4) dX12_findsOther_4 rfl rfl ?_
  refine fr_aload_n (pc := 5) dX12_findsOther_5 rfl rfl ?_
  refine fr_getr (a := 142) (pc := 6) dX12_findsOther_6 rfl pf_12_13 s0_142 rfl rf_142_9 ?_
  refine fr_iconst (pc := 9) dX12_findsOther_9 (by decide) ?_
  refine fr_iaload (a := 144) (v := gI M 144 0) (pc := 10) dX12_findsOther_10 rfl s0_144 (by decide) rfl ?_
  refine fr_icm_ge (tg := 44) (pc := 11) dX12_findsOther_11 rfl hq (fun hc1 hq => ?_) (fun hc1 hq => ?_)
  · refine fr_aload_n (pc := 14) dX12_findsOther_14 rfl rfl ?_
    refine fr_getr (a := 142) (pc := 15) dX12_findsOther_15 rfl pf_12_109 s0_142 rfl rf_142_59 ?_
    refine fr_iload_n (pc := 18) dX12_findsOther_18 rfl rfl ?_
    refine fr_aload_n (pc := 19) dX12_findsOther_19 rfl rfl ?_
    refine fr_getr (a := 142) (pc := 20) dX12_findsOther_20 rfl pf_12_102 s0_142 rfl rf_142_57 ?_
    refine fr_iload_n (pc := 23) dX12_findsOther_23 rfl rfl ?_
    obtain ⟨hb2, hq⟩ := hq
    refine fr_baload (a := 171) (v := gI M 171 l3) (pc := 24) dX12_findsOther_24 rfl s0_171 hb2 (Or.inr rfl) rfl ?_
    refine fr_ifc_eq (tg := 36) (pc := 25) dX12_findsOther_25 rfl hq (fun hc3 hq => ?_) (fun hc3 hq => ?_)
    · refine fr_iconst (pc := 36) dX12_findsOther_36 (by decide) ?_
      refine fr_iastore (a := 173) (pc := 37) dX12_findsOther_37 rfl s0_173 hb2 nr_173 ?_
      refine fr_iinc (z := w32 (l3 + 1)) (ls2 := [(2, 142), (0, l1), (0, l2), (0, w32 (l3 + 1)), z4, z5, z6, z7, z8]) (pc := 38) dX12_findsOther_38 (Nat.le_of_ble_eq_true rfl) rfl rfl rfl ?_
      refine fr_goto (tg := 4) (pc := 41) dX12_findsOther_41 rfl ?_
      exact hq sc d hd z4 hz4 z5 hz5 z6 hz6 z7 hz7 z8 hz8
    · refine fr_aload_n (pc := 28) dX12_findsOther_28 rfl rfl ?_
      refine fr_iload_n (pc := 29) dX12_findsOther_29 rfl rfl ?_
      refine fr_inVI (a := 142) (as := [(0, l3)]) (rest := [(0, l3), (2, 173)]) (ls' := [(2, 142), (0, l3), (9, 0)]) (c1 := 0) (c2 := 0) (pc := 30) dX12_findsOther_30 pl_12_361 rfl ⟨Nat.le_of_ble_eq_true rfl, Nat.le_of_ble_eq_true rfl⟩ rfl rfl rfl s0_142 (Nat.le_of_ble_eq_true rfl) (by omega) rfl rfl (pm_zc _) (hq sc _ (by omega)) (fun r5 M4 hq => ?_)
      refine fr_goto (tg := 37) (pc := 33) dX12_findsOther_33 rfl ?_
      refine fr_iastore (a := 173) (pc := 37) dX12_findsOther_37 rfl s0_173 hb2 nr_173 ?_
      refine fr_iinc (z := w32 (l3 + 1)) (ls2 := [(2, 142), (0, l1), (0, l2), (0, w32 (l3 + 1)), z4, z5, z6, z7, z8]) (pc := 38) dX12_findsOther_38 (Nat.le_of_ble_eq_true rfl) rfl rfl rfl ?_
      refine fr_goto (tg := 4) (pc := 41) dX12_findsOther_41 rfl ?_
      exact hq sc d hd z4 hz4 z5 hz5 z6 hz6 z7 hz7 z8 hz8
  · refine fr_iload_n (pc := 44) dX12_findsOther_44 rfl rfl ?_
    refine fr_iconst (pc := 45) dX12_findsOther_45 (by decide) ?_
    refine fr_iadd (z := w32 (l1 + 1)) (pc := 46) dX12_findsOther_46 rfl ?_
    refine fr_istore_n (ls2 := [(2, 142), (0, l1), (0, l2), (0, w32 (l1 + 1)), z4, z5, z6, z7, z8]) (pc := 47) dX12_findsOther_47 rfl (Nat.le_of_ble_eq_true rfl) rfl ?_
    exact hq sc d hd z4 hz4 z5 hz5 z6 hz6 z7 hz7 z8 hz8
theorem k12_findsOther_48_r {l1 l2 l3 : Int} {M : pm_M} {K : Int → pm_M → Prop} (hq : (if l3 < gI M 144 0 then k12_findsOther_61 l1 l2 l3 0 M K else K 0 M)) : k12_findsOther_48 l1 l2 l3 M K := by
  intro sc d hd z4 hz4 z5 hz5 z6 hz6 z7 hz7 z8 hz8
  refine fr_iload_n (pc := 48) dX12_findsOther_48 rfl rfl ?_
  refine fr_aload_n (pc := 49) dX12_findsOther_49 rfl rfl ?_
  refine fr_getr (a := 142) (pc := 50) dX12_findsOther_50 rfl pf_12_13 s0_142 rfl rf_142_9 ?_
  refine fr_iconst (pc := 53) dX12_findsOther_53 (by decide) ?_
  refine fr_iaload (a := 144) (v := gI M 144 0) (pc := 54) dX12_findsOther_54 rfl s0_144 (by decide) rfl ?_
  refine fr_icm_ge (tg := 209) (pc := 55) dX12_findsOther_55 rfl hq (fun hc1 hq => ?_) (fun hc1 hq => ?_)
  · refine fr_iconst (pc := 58) dX12_findsOther_58 (by decide) ?_
    refine fr_istore (ls2 := [(2, 142), (0, l1), (0, l2), (0, l3), (0, 0), z5, z6, z7, z8]) (pc := 59) dX12_findsOther_59 rfl (Nat.le_of_ble_eq_true rfl) rfl ?_
    exact hq sc d hd z5 hz5 z6 hz6 z7 hz7 z8 hz8
  · refine fr_iconst (pc := 209) dX12_findsOther_209 (by decide) ?_
    exact fr_iret (pc := 210) dX12_findsOther_210 (Or.inr (Or.inl ⟨rfl, Or.inl rfl⟩)) hq
theorem k12_findsOther_61_r {l1 l2 l3 l4 : Int} {M : pm_M} {K : Int → pm_M → Prop} (hq : ((0 ≤ l3 ∧ l3 < 60) ∧ (if l4 < gI M 173 l3 then k12_asks l3 l4 M (fun r4 M3 => k12_asks l1 l2 M3 (fun r6 M5 => ((0 ≤ l1 ∧ l1 < 800) ∧ ((0 ≤ l1 ∧ l1 < 60) ∧ k12_allPass (upI (upI (upI (upI (upI (upI (upI (upI (upI (upI M5 162 0 l1) 163 0 (gI M5 146 l1)) 164 0 (gI M5 153 l1)) 146 l1 (gI M5 142 45)) 153 l1 (gI M5 142 46)) 162 1 l3) 163 1 (gI (upI (upI (upI (upI M5 162 0 l1) 163 0 (gI M5 146 l1)) 164 0 (gI M5 153 l1)) 146 l1 (gI M5 142 45)) 146 l3)) 164 1 (gI (upI (upI (upI (upI (upI M5 162 0 l1) 163 0 (gI M5 146 l1)) 164 0 (gI M5 153 l1)) 146 l1 (gI M5 142 45)) 153 l1 (gI M5 142 46)) 153 l3)) 146 l3 (gI M3 142 45)) 153 l3 (gI M3 142 46)) (fun r10 M9 => (if r10 = 0 then ((0 ≤ gI M9 162 1 ∧ gI M9 162 1 < 800) ∧ ((0 ≤ gI M9 162 1 ∧ gI M9 162 1 < 60) ∧ ((0 ≤ gI M9 162 0 ∧ gI M9 162 0 < 800) ∧ ((0 ≤ gI M9 162 0 ∧ gI M9 162 0 < 60) ∧ k12_findsOther_61 l1 l2 l3 (w32 (l4 + 1)) (upI (upI (upI (upI (upI M9 172 4 0) 146 (gI M9 162 1) (gI M9 163 1)) 153 (gI M9 162 1) (gI M9 164 1)) 146 (gI M9 162 0) (gI M9 163 0)) 153 (gI M9 162 0) (gI M9 164 0)) K)))) else k12_manyPass 1 M9 (fun r17 M16 => ((0 ≤ gI M16 162 1 ∧ gI M16 162 1 < 800) ∧ ((0 ≤ gI M16 162 1 ∧ gI M16 162 1 < 60) ∧ ((0 ≤ gI M16 162 0 ∧ gI M16 162 0 < 800) ∧ ((0 ≤ gI M16 162 0 ∧ gI M16 162 0 < 60) ∧ K 1 (upI (upI (upI (upI (upI (upI (upI (upI (upI M16 172 4 r17) 146 (gI M16 162 1) (gI M16 163 1)) 153 (gI M16 162 1) (gI M16 164 1)) 146 (gI M16 162 0) (gI M16 163 0)) 153 (gI M16 162 0) (gI M16 164 0)) 172 0 l1) 172 1 l2) 172 2 l3) 172 3 l4)))))))))))) else k12_findsOther_48 l1 l2 (w32 (l3 + 1)) M K))) : k12_findsOther_61 l1 l2 l3 l4 M K := by
  intro sc d hd z5 hz5 z6 hz6 z7 hz7 z8 hz8
  refine fr_iload (pc := 61) dX12_findsOther_61 rfl rfl ?_
  refine fr_aload_n (pc := 63) dX12_findsOther_63 rfl rfl ?_
  refine fr_getr (a := 142) (pc := 64) dX12_findsOther_64 rfl pf_12_109 s0_142 rfl rf_142_59 ?_
  refine fr_iload_n (pc := 67) dX12_findsOther_67 rfl rfl ?_
  obtain ⟨hb1, hq⟩ := hq
  refine fr_iaload (a := 173) (v := gI M 173 l3) (pc := 68) dX12_findsOther_68 rfl s0_173 hb1 rfl ?_
  refine fr_icm_ge (tg := 203) (pc := 69) dX12_findsOther_69 rfl hq (fun hc2 hq => ?_) (fun hc2 hq => ?_)
  · refine fr_aload_n (pc := 72) dX12_findsOther_72 rfl rfl ?_
    refine fr_iload_n (pc := 73) dX12_findsOther_73 rfl rfl ?_
    refine fr_iload (pc := 74) dX12_findsOther_74 rfl rfl ?_
    refine fr_inVI (a := 142) (as := [(0, l3), (0, l4)]) (rest := []) (ls' := [(2, 142), (0, l3), (0, l4)]) (c1 := 0) (c2 := 0) (pc := 76) dX12_findsOther_76 pl_12_358 rfl ⟨Nat.le_of_ble_eq_true rfl, Nat.le_of_ble_eq_true rfl⟩ rfl rfl rfl s0_142 (Nat.le_of_ble_eq_true rfl) (by omega) rfl rfl (pm_zc _) (hq sc _ (by omega)) (fun r4 M3 hq => ?_)
    refine fr_istore (ls2 := [(2, 142), (0, l1), (0, l2), (0, l3), (0, l4), (0, r4), z6, z7, z8]) (pc := 79) dX12_findsOther_79 rfl (Nat.le_of_ble_eq_true rfl) rfl ?_
    refine fr_aload_n (pc := 81) dX12_findsOther_81 rfl rfl ?_
    refine fr_getf (a := 142) (i := 45) (v := gI M3 142 45) (t := 0) (pc := 82) dX12_findsOther_82 rfl pf_12_345 rfl s0_142 rfl rfl ?_
    refine fr_istore (ls2 := [(2, 142), (0, l1), (0, l2), (0, l3), (0, l4), (0, r4), (0, gI M3 142 45), z7, z8]) (pc := 85) dX12_findsOther_85 rfl (Nat.le_of_ble_eq_true rfl) rfl ?_
    refine fr_aload_n (pc := 87) dX12_findsOther_87 rfl rfl ?_
    refine fr_getf (a := 142) (i := 46) (v := gI M3 142 46) (t := 0) (pc := 88) dX12_findsOther_88 rfl pf_12_348 rfl s0_142 rfl rfl ?_
    refine fr_istore (ls2 := [(2, 142), (0, l1), (0, l2), (0, l3), (0, l4), (0, r4), (0, gI M3 142 45), (0, gI M3 142 46), z8]) (pc := 91) dX12_findsOther_91 rfl (Nat.le_of_ble_eq_true rfl) rfl ?_
    refine fr_aload_n (pc := 93) dX12_findsOther_93 rfl rfl ?_
    refine fr_iload_n (pc := 94) dX12_findsOther_94 rfl rfl ?_
    refine fr_iload_n (pc := 95) dX12_findsOther_95 rfl rfl ?_
    refine fr_inVI (a := 142) (as := [(0, l1), (0, l2)]) (rest := []) (ls' := [(2, 142), (0, l1), (0, l2)]) (c1 := 0) (c2 := 0) (pc := 96) dX12_findsOther_96 pl_12_358 rfl ⟨Nat.le_of_ble_eq_true rfl, Nat.le_of_ble_eq_true rfl⟩ rfl rfl rfl s0_142 (Nat.le_of_ble_eq_true rfl) (by omega) rfl rfl (pm_zc _) (hq sc _ (by omega)) (fun r6 M5 hq => ?_)
    refine fr_istore (ls2 := [(2, 142), (0, l1), (0, l2), (0, l3), (0, l4), (0, r6), (0, gI M3 142 45), (0, gI M3 142 46), z8]) (pc := 99) dX12_findsOther_99 rfl (Nat.le_of_ble_eq_true rfl) rfl ?_
    refine fr_aload_n (pc := 101) dX12_findsOther_101 rfl rfl ?_
    refine fr_iconst (pc := 102) dX12_findsOther_102 (by decide) ?_
    refine fr_iload_n (pc := 103) dX12_findsOther_103 rfl rfl ?_
    refine fr_aload_n (pc := 104) dX12_findsOther_104 rfl rfl ?_
    refine fr_getf (a := 142) (i := 45) (v := gI M5 142 45) (t := 0) (pc := 105) dX12_findsOther_105 rfl pf_12_345 rfl s0_142 rfl rfl ?_
    refine fr_aload_n (pc := 108) dX12_findsOther_108 rfl rfl ?_
    refine fr_getf (a := 142) (i := 46) (v := gI M5 142 46) (t := 0) (pc := 109) dX12_findsOther_109 rfl pf_12_348 rfl s0_142 rfl rfl ?_
    refine fr_inVV (a := 142) (as := [(0, 0), (0, l1), (0, gI M5 142 45), (0, gI M5 142 46)]) (rest := []) (ls' := [(2, 142), (0, 0), (0, l1), (0, gI M5 142 45), (0, gI M5 142 46)]) (c1 := 0) (c2 := 0) (pc := 112) dX12_findsOther_112 pl_12_367 rfl ⟨Nat.le_of_ble_eq_true rfl, Nat.le_of_ble_eq_true rfl⟩ rfl rfl rfl s0_142 (Nat.le_of_ble_eq_true rfl) (by omega) rfl rfl (pm_zc _) ?_ (fun M' h => h)
    refine fr_aload_n (pc := 0) dX12_puts__0 rfl rfl ?_
    refine fr_getr (a := 142) (pc := 1) dX12_puts__1 rfl pf_12_75 s0_142 rfl rf_142_47 ?_
    refine fr_iload_n (pc := 4) dX12_puts__4 rfl rfl ?_
    refine fr_iload_n (pc := 5) dX12_puts__5 rfl rfl ?_
    refine fr_iastore (a := 162) (pc := 6) dX12_puts__6 rfl s0_162 (by decide) nr_162 ?_
    refine fr_aload_n (pc := 7) dX12_puts__7 rfl rfl ?_
    refine fr_getr (a := 142) (pc := 8) dX12_puts__8 rfl pf_12_78 s0_142 rfl rf_142_48 ?_
    refine fr_iload_n (pc := 11) dX12_puts__11 rfl rfl ?_
    refine fr_aload_n (pc := 12) dX12_puts__12 rfl rfl ?_
    refine fr_getr (a := 142) (pc := 13) dX12_puts__13 rfl pf_12_20 s0_142 rfl rf_142_11 ?_
    refine fr_iload_n (pc := 16) dX12_puts__16 rfl rfl ?_
    obtain ⟨hb7, hq⟩ := hq
    refine fr_iaload (a := 146) (v := gI M5 146 l1) (pc := 17) dX12_puts__17 rfl s0_146 hb7 (gI_ne _ _ _ _ (by decide)) ?_
    refine fr_iastore (a := 163) (pc := 18) dX12_puts__18 rfl s0_163 (by decide) nr_163 ?_
    refine fr_aload_n (pc := 19) dX12_puts__19 rfl rfl ?_
    refine fr_getr (a := 142) (pc := 20) dX12_puts__20 rfl pf_12_81 s0_142 rfl rf_142_49 ?_
    refine fr_iload_n (pc := 23) dX12_puts__23 rfl rfl ?_
    refine fr_aload_n (pc := 24) dX12_puts__24 rfl rfl ?_
    refine fr_getr (a := 142) (pc := 25) dX12_puts__25 rfl pf_12_41 s0_142 rfl rf_142_23 ?_
    refine fr_iload_n (pc := 28) dX12_puts__28 rfl rfl ?_
    obtain ⟨hb8, hq⟩ := hq
    refine fr_iaload (a := 153) (v := gI M5 153 l1) (pc := 29) dX12_puts__29 rfl s0_153 hb8 ((gI_ne _ _ _ _ (by decide)).trans (gI_ne _ _ _ _ (by decide))) ?_
    refine fr_iastore (a := 164) (pc := 30) dX12_puts__30 rfl s0_164 (by decide) nr_164 ?_
    refine fr_aload_n (pc := 31) dX12_puts__31 rfl rfl ?_
    refine fr_getr (a := 142) (pc := 32) dX12_puts__32 rfl pf_12_20 s0_142 rfl rf_142_11 ?_
    refine fr_iload_n (pc := 35) dX12_puts__35 rfl rfl ?_
    refine fr_iload_n (pc := 36) dX12_puts__36 rfl rfl ?_
    refine fr_iastore (a := 146) (pc := 37) dX12_puts__37 rfl s0_146 ⟨hb8.1, by omega⟩ nr_146 ?_
    refine fr_aload_n (pc := 38) dX12_puts__38 rfl rfl ?_
    refine fr_getr (a := 142) (pc := 39) dX12_puts__39 rfl pf_12_41 s0_142 rfl rf_142_23 ?_
    refine fr_iload_n (pc := 42) dX12_puts__42 rfl rfl ?_
    refine fr_iload (pc := 43) dX12_puts__43 rfl rfl ?_
    refine fr_iastore (a := 153) (pc := 45) dX12_puts__45 rfl s0_153 hb8 nr_153 ?_
    refine fr_vret (pc := 46) dX12_puts__46 rfl ?_
    refine fr_aload_n (pc := 115) dX12_findsOther_115 rfl rfl ?_
    refine fr_iconst (pc := 116) dX12_findsOther_116 (by decide) ?_
    refine fr_iload_n (pc := 117) dX12_findsOther_117 rfl rfl ?_
    refine fr_iload (pc := 118) dX12_findsOther_118 rfl rfl ?_
    refine fr_iload (pc := 120) dX12_findsOther_120 rfl rfl ?_
    refine fr_inVV (a := 142) (as := [(0, 1), (0, l3), (0, gI M3 142 45), (0, gI M3 142 46)]) (rest := []) (ls' := [(2, 142), (0, 1), (0, l3), (0, gI M3 142 45), (0, gI M3 142 46)]) (c1 := 0) (c2 := 0) (pc := 122) dX12_findsOther_122 pl_12_367 rfl ⟨Nat.le_of_ble_eq_true rfl, Nat.le_of_ble_eq_true rfl⟩ rfl rfl rfl s0_142 (Nat.le_of_ble_eq_true rfl) (by omega) rfl rfl (pm_zc _) ?_ (fun M' h => h)
    refine fr_aload_n (pc := 0) dX12_puts__0 rfl rfl ?_
    refine fr_getr (a := 142) (pc := 1) dX12_puts__1 rfl pf_12_75 s0_142 rfl rf_142_47 ?_
    refine fr_iload_n (pc := 4) dX12_puts__4 rfl rfl ?_
    refine fr_iload_n (pc := 5) dX12_puts__5 rfl rfl ?_
    refine fr_iastore (a := 162) (pc := 6) dX12_puts__6 rfl s0_162 (by decide) nr_162 ?_
    refine fr_aload_n (pc := 7) dX12_puts__7 rfl rfl ?_
    refine fr_getr (a := 142) (pc := 8) dX12_puts__8 rfl pf_12_78 s0_142 rfl rf_142_48 ?_
    refine fr_iload_n (pc := 11) dX12_puts__11 rfl rfl ?_
    refine fr_aload_n (pc := 12) dX12_puts__12 rfl rfl ?_
    refine fr_getr (a := 142) (pc := 13) dX12_puts__13 rfl pf_12_20 s0_142 rfl rf_142_11 ?_
    refine fr_iload_n (pc := 16) dX12_puts__16 rfl rfl ?_
    refine fr_iaload (a := 146) (v := gI (upI (upI (upI (upI M5 162 0 l1) 163 0 (gI M5 146 l1)) 164 0 (gI M5 153 l1)) 146 l1 (gI M5 142 45)) 146 l3) (pc := 17) dX12_puts__17 rfl s0_146 ⟨hb1.1, by omega⟩ ((gI_ne _ _ _ _ (by decide)).trans (gI_ne _ _ _ _ (by decide))) ?_
    refine fr_iastore (a := 163) (pc := 18) dX12_puts__18 rfl s0_163 (by decide) nr_163 ?_
    refine fr_aload_n (pc := 19) dX12_puts__19 rfl rfl ?_
    refine fr_getr (a := 142) (pc := 20) dX12_puts__20 rfl pf_12_81 s0_142 rfl rf_142_49 ?_
    refine fr_iload_n (pc := 23) dX12_puts__23 rfl rfl ?_
    refine fr_aload_n (pc := 24) dX12_puts__24 rfl rfl ?_
    refine fr_getr (a := 142) (pc := 25) dX12_puts__25 rfl pf_12_41 s0_142 rfl rf_142_23 ?_
    refine fr_iload_n (pc := 28) dX12_puts__28 rfl rfl ?_
    refine fr_iaload (a := 153) (v := gI (upI (upI (upI (upI (upI M5 162 0 l1) 163 0 (gI M5 146 l1)) 164 0 (gI M5 153 l1)) 146 l1 (gI M5 142 45)) 153 l1 (gI M5 142 46)) 153 l3) (pc := 29) dX12_puts__29 rfl s0_153 hb1 ((gI_ne _ _ _ _ (by decide)).trans (gI_ne _ _ _ _ (by decide))) ?_
    refine fr_iastore (a := 164) (pc := 30) dX12_puts__30 rfl s0_164 (by decide) nr_164 ?_
    refine fr_aload_n (pc := 31) dX12_puts__31 rfl rfl ?_
    refine fr_getr (a := 142) (pc := 32) dX12_puts__32 rfl pf_12_20 s0_142 rfl rf_142_11 ?_
    refine fr_iload_n (pc := 35) dX12_puts__35 rfl rfl ?_
    refine fr_iload_n (pc := 36) dX12_puts__36 rfl rfl ?_
    refine fr_iastore (a := 146) (pc := 37) dX12_puts__37 rfl s0_146 ⟨hb1.1, by omega⟩ nr_146 ?_
    refine fr_aload_n (pc := 38) dX12_puts__38 rfl rfl ?_
    refine fr_getr (a := 142) (pc := 39) dX12_puts__39 rfl pf_12_41 s0_142 rfl rf_142_23 ?_
    refine fr_iload_n (pc := 42) dX12_puts__42 rfl rfl ?_
    refine fr_iload (pc := 43) dX12_puts__43 rfl rfl ?_
    refine fr_iastore (a := 153) (pc := 45) dX12_puts__45 rfl s0_153 hb1 nr_153 ?_
    refine fr_vret (pc := 46) dX12_puts__46 rfl ?_
    refine fr_aload_n (pc := 125) dX12_findsOther_125 rfl rfl ?_
    refine fr_inVI (a := 142) (as := []) (rest := []) (ls' := [(2, 142), (9, 0)]) (c1 := 0) (c2 := 0) (pc := 126) dX12_findsOther_126 pl_12_364 rfl ⟨Nat.le_of_ble_eq_true rfl, Nat.le_of_ble_eq_true rfl⟩ rfl rfl rfl s0_142 (Nat.le_of_ble_eq_true rfl) (by omega) rfl rfl (pm_zc _) (hq sc _ (by omega)) (fun r10 M9 hq => ?_)
    refine fr_istore (ls2 := [(2, 142), (0, l1), (0, l2), (0, l3), (0, l4), (0, r6), (0, gI M3 142 45), (0, gI M3 142 46), (0, r10)]) (pc := 129) dX12_findsOther_129 rfl (Nat.le_of_ble_eq_true rfl) rfl ?_
    refine fr_aload_n (pc := 131) dX12_findsOther_131 rfl rfl ?_
    refine fr_getr (a := 142) (pc := 132) dX12_findsOther_132 rfl pf_12_106 s0_142 rfl rf_142_58 ?_
    refine fr_iconst (pc := 135) dX12_findsOther_135 (by decide) ?_
    refine fr_iload (pc := 136) dX12_findsOther_136 rfl rfl ?_
    refine fr_ifc_eq (tg := 149) (pc := 138) dX12_findsOther_138 rfl hq (fun hc11 hq => ?_) (fun hc11 hq => ?_)
    · refine fr_iconst (pc := 149) dX12_findsOther_149 (by decide) ?_
      refine fr_iastore (a := 172) (pc := 150) dX12_findsOther_150 rfl s0_172 (by decide) nr_172 ?_
      refine fr_aload_n (pc := 151) dX12_findsOther_151 rfl rfl ?_
      refine fr_iconst (pc := 152) dX12_findsOther_152 (by decide) ?_
      refine fr_inVV (a := 142) (as := [(0, 1)]) (rest := []) (ls' := [(2, 142), (0, 1)]) (c1 := 0) (c2 := 0) (pc := 153) dX12_findsOther_153 pl_12_374 rfl ⟨Nat.le_of_ble_eq_true rfl, Nat.le_of_ble_eq_true rfl⟩ rfl rfl rfl s0_142 (Nat.le_of_ble_eq_true rfl) (by omega) rfl rfl (pm_zc _) ?_ (fun M' h => h)
      refine fr_aload_n (pc := 0) dX12_takesOut_0 rfl rfl ?_
      refine fr_getr (a := 142) (pc := 1) dX12_takesOut_1 rfl pf_12_20 s0_142 rfl rf_142_11 ?_
      refine fr_aload_n (pc := 4) dX12_takesOut_4 rfl rfl ?_
      refine fr_getr (a := 142) (pc := 5) dX12_takesOut_5 rfl pf_12_75 s0_142 rfl rf_142_47 ?_
      refine fr_iload_n (pc := 8) dX12_takesOut_8 rfl rfl ?_
      refine fr_iaload (a := 162) (v := gI M9 162 1) (pc := 9) dX12_takesOut_9 rfl s0_162 (by decide) (gI_ne _ _ _ _ (by decide)) ?_
      refine fr_aload_n (pc := 10) dX12_takesOut_10 rfl rfl ?_
      refine fr_getr (a := 142) (pc := 11) dX12_takesOut_11 rfl pf_12_78 s0_142 rfl rf_142_48 ?_
      refine fr_iload_n (pc := 14) dX12_takesOut_14 rfl rfl ?_
      refine fr_iaload (a := 163) (v := gI M9 163 1) (pc := 15) dX12_takesOut_15 rfl s0_163 (by decide) (gI_ne _ _ _ _ (by decide)) ?_
      obtain ⟨hb12, hq⟩ := hq
      refine fr_iastore (a := 146) (pc := 16) dX12_takesOut_16 rfl s0_146 hb12 nr_146 ?_
      refine fr_aload_n (pc := 17) dX12_takesOut_17 rfl rfl ?_
      refine fr_getr (a := 142) (pc := 18) dX12_takesOut_18 rfl pf_12_41 s0_142 rfl rf_142_23 ?_
      refine fr_aload_n (pc := 21) dX12_takesOut_21 rfl rfl ?_
      refine fr_getr (a := 142) (pc := 22) dX12_takesOut_22 rfl pf_12_75 s0_142 rfl rf_142_47 ?_
      refine fr_iload_n (pc := 25) dX12_takesOut_25 rfl rfl ?_
      refine fr_iaload (a := 162) (v := gI M9 162 1) (pc := 26) dX12_takesOut_26 rfl s0_162 (by decide) ((gI_ne _ _ _ _ (by decide)).trans (gI_ne _ _ _ _ (by decide))) ?_
      refine fr_aload_n (pc := 27) dX12_takesOut_27 rfl rfl ?_
      refine fr_getr (a := 142) (pc := 28) dX12_takesOut_28 rfl pf_12_81 s0_142 rfl rf_142_49 ?_
      refine fr_iload_n (pc := 31) dX12_takesOut_31 rfl rfl ?_
      refine fr_iaload (a := 164) (v := gI M9 164 1) (pc := 32) dX12_takesOut_32 rfl s0_164 (by decide) ((gI_ne _ _ _ _ (by decide)).trans (gI_ne _ _ _ _ (by decide))) ?_
      obtain ⟨hb13, hq⟩ := hq
      refine fr_iastore (a := 153) (pc := 33) dX12_takesOut_33 rfl s0_153 hb13 nr_153 ?_
      refine fr_vret (pc := 34) dX12_takesOut_34 rfl ?_
      refine fr_aload_n (pc := 156) dX12_findsOther_156 rfl rfl ?_
      refine fr_iconst (pc := 157) dX12_findsOther_157 (by decide) ?_
      refine fr_inVV (a := 142) (as := [(0, 0)]) (rest := []) (ls' := [(2, 142), (0, 0)]) (c1 := 0) (c2 := 0) (pc := 158) dX12_findsOther_158 pl_12_374 rfl ⟨Nat.le_of_ble_eq_true rfl, Nat.le_of_ble_eq_true rfl⟩ rfl rfl rfl s0_142 (Nat.le_of_ble_eq_true rfl) (by omega) rfl rfl (pm_zc _) ?_ (fun M' h => h)
      refine fr_aload_n (pc := 0) dX12_takesOut_0 rfl rfl ?_
      refine fr_getr (a := 142) (pc := 1) dX12_takesOut_1 rfl pf_12_20 s0_142 rfl rf_142_11 ?_
      refine fr_aload_n (pc := 4) dX12_takesOut_4 rfl rfl ?_
      refine fr_getr (a := 142) (pc := 5) dX12_takesOut_5 rfl pf_12_75 s0_142 rfl rf_142_47 ?_
      refine fr_iload_n (pc := 8) dX12_takesOut_8 rfl rfl ?_
      refine fr_iaload (a := 162) (v := gI M9 162 0) (pc := 9) dX12_takesOut_9 rfl s0_162 (by decide) ((gI_ne _ _ _ _ (by decide)).trans ((gI_ne _ _ _ _ (by decide)).trans (gI_ne _ _ _ _ (by decide)))) ?_
      refine fr_aload_n (pc := 10) dX12_takesOut_10 rfl rfl ?_
      refine fr_getr (a := 142) (pc := 11) dX12_takesOut_11 rfl pf_12_78 s0_142 rfl rf_142_48 ?_
      refine fr_iload_n (pc := 14) dX12_takesOut_14 rfl rfl ?_
      refine fr_iaload (a := 163) (v := gI M9 163 0) (pc := 15) dX12_takesOut_15 rfl s0_163 (by decide) ((gI_ne _ _ _ _ (by decide)).trans ((gI_ne _ _ _ _ (by decide)).trans (gI_ne _ _ _ _ (by decide)))) ?_
      obtain ⟨hb14, hq⟩ := hq
      refine fr_iastore (a := 146) (pc := 16) dX12_takesOut_16 rfl s0_146 hb14 nr_146 ?_
      refine fr_aload_n (pc := 17) dX12_takesOut_17 rfl rfl ?_
      refine fr_getr (a := 142) (pc := 18) dX12_takesOut_18 rfl pf_12_41 s0_142 rfl rf_142_23 ?_
      refine fr_aload_n (pc := 21) dX12_takesOut_21 rfl rfl ?_
      refine fr_getr (a := 142) (pc := 22) dX12_takesOut_22 rfl pf_12_75 s0_142 rfl rf_142_47 ?_
      refine fr_iload_n (pc := 25) dX12_takesOut_25 rfl rfl ?_
      refine fr_iaload (a := 162) (v := gI M9 162 0) (pc := 26) dX12_takesOut_26 rfl s0_162 (by decide) ((gI_ne _ _ _ _ (by decide)).trans ((gI_ne _ _ _ _ (by decide)).trans ((gI_ne _ _ _ _ (by decide)).trans (gI_ne _ _ _ _ (by decide))))) ?_
      refine fr_aload_n (pc := 27) dX12_takesOut_27 rfl rfl ?_
      refine fr_getr (a := 142) (pc := 28) dX12_takesOut_28 rfl pf_12_81 s0_142 rfl rf_142_49 ?_
      refine fr_iload_n (pc := 31) dX12_takesOut_31 rfl rfl ?_
      refine fr_iaload (a := 164) (v := gI M9 164 0) (pc := 32) dX12_takesOut_32 rfl s0_164 (by decide) ((gI_ne _ _ _ _ (by decide)).trans ((gI_ne _ _ _ _ (by decide)).trans ((gI_ne _ _ _ _ (by decide)).trans (gI_ne _ _ _ _ (by decide))))) ?_
      obtain ⟨hb15, hq⟩ := hq
      refine fr_iastore (a := 153) (pc := 33) dX12_takesOut_33 rfl s0_153 hb15 nr_153 ?_
      refine fr_vret (pc := 34) dX12_takesOut_34 rfl ?_
      refine fr_iload (pc := 161) dX12_findsOther_161 rfl rfl ?_
      refine fr_ifcT (tg := 197) (pc := 163) dX12_findsOther_163 (decide_eq_true hc11) rfl ?_
      refine fr_iinc (z := w32 (l4 + 1)) (ls2 := [(2, 142), (0, l1), (0, l2), (0, l3), (0, w32 (l4 + 1)), (0, r6), (0, gI M3 142 45), (0, gI M3 142 46), (0, r10)]) (pc := 197) dX12_findsOther_197 (Nat.le_of_ble_eq_true rfl) rfl rfl rfl ?_
      refine fr_goto (tg := 61) (pc := 200) dX12_findsOther_200 rfl ?_
      exact hq sc d hd (0, r6) pm_t0 (0, gI M3 142 45) pm_t0 (0, gI M3 142 46) pm_t0 (0, r10) pm_t0
    · refine fr_aload_n (pc := 141) dX12_findsOther_141 rfl rfl ?_
      refine fr_iconst (pc := 142) dX12_findsOther_142 (by decide) ?_
      refine fr_inVI (a := 142) (as := [(0, 1)]) (rest := [(0, 4), (2, 172)]) (ls' := [(2, 142), (0, 1), (9, 0), (9, 0)]) (c1 := 0) (c2 := 0) (pc := 143) dX12_findsOther_143 pl_12_370 rfl ⟨Nat.le_of_ble_eq_true rfl, Nat.le_of_ble_eq_true rfl⟩ rfl rfl rfl s0_142 (Nat.le_of_ble_eq_true rfl) (by omega) rfl rfl (pm_zc _) (hq sc _ (by omega)) (fun r17 M16 hq => ?_)
      refine fr_goto (tg := 150) (pc := 146) dX12_findsOther_146 rfl ?_
      refine fr_iastore (a := 172) (pc := 150) dX12_findsOther_150 rfl s0_172 (by decide) nr_172 ?_
      refine fr_aload_n (pc := 151) dX12_findsOther_151 rfl rfl ?_
      refine fr_iconst (pc := 152) dX12_findsOther_152 (by decide) ?_
      refine fr_inVV (a := 142) (as := [(0, 1)]) (rest := []) (ls' := [(2, 142), (0, 1)]) (c1 := 0) (c2 := 0) (pc := 153) dX12_findsOther_153 pl_12_374 rfl ⟨Nat.le_of_ble_eq_true rfl, Nat.le_of_ble_eq_true rfl⟩ rfl rfl rfl s0_142 (Nat.le_of_ble_eq_true rfl) (by omega) rfl rfl (pm_zc _) ?_ (fun M' h => h)
      refine fr_aload_n (pc := 0) dX12_takesOut_0 rfl rfl ?_
      refine fr_getr (a := 142) (pc := 1) dX12_takesOut_1 rfl pf_12_20 s0_142 rfl rf_142_11 ?_
      refine fr_aload_n (pc := 4) dX12_takesOut_4 rfl rfl ?_
      refine fr_getr (a := 142) (pc := 5) dX12_takesOut_5 rfl pf_12_75 s0_142 rfl rf_142_47 ?_
      refine fr_iload_n (pc := 8) dX12_takesOut_8 rfl rfl ?_
      refine fr_iaload (a := 162) (v := gI M16 162 1) (pc := 9) dX12_takesOut_9 rfl s0_162 (by decide) (gI_ne _ _ _ _ (by decide)) ?_
      refine fr_aload_n (pc := 10) dX12_takesOut_10 rfl rfl ?_
      refine fr_getr (a := 142) (pc := 11) dX12_takesOut_11 rfl pf_12_78 s0_142 rfl rf_142_48 ?_
      refine fr_iload_n (pc := 14) dX12_takesOut_14 rfl rfl ?_
      refine fr_iaload (a := 163) (v := gI M16 163 1) (pc := 15) dX12_takesOut_15 rfl s0_163 (by decide) (gI_ne _ _ _ _ (by decide)) ?_
      obtain ⟨hb18, hq⟩ := hq
      refine fr_iastore (a := 146) (pc := 16) dX12_takesOut_16 rfl s0_146 hb18 nr_146 ?_
      refine fr_aload_n (pc := 17) dX12_takesOut_17 rfl rfl ?_
      refine fr_getr (a := 142) (pc := 18) dX12_takesOut_18 rfl pf_12_41 s0_142 rfl rf_142_23 ?_
      refine fr_aload_n (pc := 21) dX12_takesOut_21 rfl rfl ?_
      refine fr_getr (a := 142) (pc := 22) dX12_takesOut_22 rfl pf_12_75 s0_142 rfl rf_142_47 ?_
      refine fr_iload_n (pc := 25) dX12_takesOut_25 rfl rfl ?_
      refine fr_iaload (a := 162) (v := gI M16 162 1) (pc := 26) dX12_takesOut_26 rfl s0_162 (by decide) ((gI_ne _ _ _ _ (by decide)).trans (gI_ne _ _ _ _ (by decide))) ?_
      refine fr_aload_n (pc := 27) dX12_takesOut_27 rfl rfl ?_
      refine fr_getr (a := 142) (pc := 28) dX12_takesOut_28 rfl pf_12_81 s0_142 rfl rf_142_49 ?_
      refine fr_iload_n (pc := 31) dX12_takesOut_31 rfl rfl ?_
      refine fr_iaload (a := 164) (v := gI M16 164 1) (pc := 32) dX12_takesOut_32 rfl s0_164 (by decide) ((gI_ne _ _ _ _ (by decide)).trans (gI_ne _ _ _ _ (by decide))) ?_
      obtain ⟨hb19, hq⟩ := hq
      refine fr_iastore (a := 153) (pc := 33) dX12_takesOut_33 rfl s0_153 hb19 nr_153 ?_
      refine fr_vret (pc := 34) dX12_takesOut_34 rfl ?_
      refine fr_aload_n (pc := 156) dX12_findsOther_156 rfl rfl ?_
      refine fr_iconst (pc := 157) dX12_findsOther_157 (by decide) ?_
      refine fr_inVV (a := 142) (as := [(0, 0)]) (rest := []) (ls' := [(2, 142), (0, 0)]) (c1 := 0) (c2 := 0) (pc := 158) dX12_findsOther_158 pl_12_374 rfl ⟨Nat.le_of_ble_eq_true rfl, Nat.le_of_ble_eq_true rfl⟩ rfl rfl rfl s0_142 (Nat.le_of_ble_eq_true rfl) (by omega) rfl rfl (pm_zc _) ?_ (fun M' h => h)
      refine fr_aload_n (pc := 0) dX12_takesOut_0 rfl rfl ?_
      refine fr_getr (a := 142) (pc := 1) dX12_takesOut_1 rfl pf_12_20 s0_142 rfl rf_142_11 ?_
      refine fr_aload_n (pc := 4) dX12_takesOut_4 rfl rfl ?_
      refine fr_getr (a := 142) (pc := 5) dX12_takesOut_5 rfl pf_12_75 s0_142 rfl rf_142_47 ?_
      refine fr_iload_n (pc := 8) dX12_takesOut_8 rfl rfl ?_
      refine fr_iaload (a := 162) (v := gI M16 162 0) (pc := 9) dX12_takesOut_9 rfl s0_162 (by decide) ((gI_ne _ _ _ _ (by decide)).trans ((gI_ne _ _ _ _ (by decide)).trans (gI_ne _ _ _ _ (by decide)))) ?_
      refine fr_aload_n (pc := 10) dX12_takesOut_10 rfl rfl ?_
      refine fr_getr (a := 142) (pc := 11) dX12_takesOut_11 rfl pf_12_78 s0_142 rfl rf_142_48 ?_
      refine fr_iload_n (pc := 14) dX12_takesOut_14 rfl rfl ?_
      refine fr_iaload (a := 163) (v := gI M16 163 0) (pc := 15) dX12_takesOut_15 rfl s0_163 (by decide) ((gI_ne _ _ _ _ (by decide)).trans ((gI_ne _ _ _ _ (by decide)).trans (gI_ne _ _ _ _ (by decide)))) ?_
      obtain ⟨hb20, hq⟩ := hq
      refine fr_iastore (a := 146) (pc := 16) dX12_takesOut_16 rfl s0_146 hb20 nr_146 ?_
      refine fr_aload_n (pc := 17) dX12_takesOut_17 rfl rfl ?_
      refine fr_getr (a := 142) (pc := 18) dX12_takesOut_18 rfl pf_12_41 s0_142 rfl rf_142_23 ?_
      refine fr_aload_n (pc := 21) dX12_takesOut_21 rfl rfl ?_
      refine fr_getr (a := 142) (pc := 22) dX12_takesOut_22 rfl pf_12_75 s0_142 rfl rf_142_47 ?_
      refine fr_iload_n (pc := 25) dX12_takesOut_25 rfl rfl ?_
      refine fr_iaload (a := 162) (v := gI M16 162 0) (pc := 26) dX12_takesOut_26 rfl s0_162 (by decide) ((gI_ne _ _ _ _ (by decide)).trans ((gI_ne _ _ _ _ (by decide)).trans ((gI_ne _ _ _ _ (by decide)).trans (gI_ne _ _ _ _ (by decide))))) ?_
      refine fr_aload_n (pc := 27) dX12_takesOut_27 rfl rfl ?_
      refine fr_getr (a := 142) (pc := 28) dX12_takesOut_28 rfl pf_12_81 s0_142 rfl rf_142_49 ?_
      refine fr_iload_n (pc := 31) dX12_takesOut_31 rfl rfl ?_
      refine fr_iaload (a := 164) (v := gI M16 164 0) (pc := 32) dX12_takesOut_32 rfl s0_164 (by decide) ((gI_ne _ _ _ _ (by decide)).trans ((gI_ne _ _ _ _ (by decide)).trans ((gI_ne _ _ _ _ (by decide)).trans (gI_ne _ _ _ _ (by decide))))) ?_
      obtain ⟨hb21, hq⟩ := hq
      refine fr_iastore (a := 153) (pc := 33) dX12_takesOut_33 rfl s0_153 hb21 nr_153 ?_
      refine fr_vret (pc := 34) dX12_takesOut_34 rfl ?_
      refine fr_iload (pc := 161) dX12_findsOther_161 rfl rfl ?_
      refine fr_ifcF (tg := 197) (pc := 163) dX12_findsOther_163 (decide_eq_false hc11) rfl ?_
      refine fr_aload_n (pc := 166) dX12_findsOther_166 rfl rfl ?_
      refine fr_getr (a := 142) (pc := 167) dX12_findsOther_167 rfl pf_12_106 s0_142 rfl rf_142_58 ?_
      refine fr_iconst (pc := 170) dX12_findsOther_170 (by decide) ?_
      refine fr_iload_n (pc := 171) dX12_findsOther_171 rfl rfl ?_
      refine fr_iastore (a := 172) (pc := 172) dX12_findsOther_172 rfl s0_172 (by decide) nr_172 ?_
      refine fr_aload_n (pc := 173) dX12_findsOther_173 rfl rfl ?_
      refine fr_getr (a := 142) (pc := 174) dX12_findsOther_174 rfl pf_12_106 s0_142 rfl rf_142_58 ?_
      refine fr_iconst (pc := 177) dX12_findsOther_177 (by decide) ?_
      refine fr_iload_n (pc := 178) dX12_findsOther_178 rfl rfl ?_
      refine fr_iastore (a := 172) (pc := 179) dX12_findsOther_179 rfl s0_172 (by decide) nr_172 ?_
      refine fr_aload_n (pc := 180) dX12_findsOther_180 rfl rfl ?_
      refine fr_getr (a := 142) (pc := 181) dX12_findsOther_181 rfl pf_12_106 s0_142 rfl rf_142_58 ?_
      refine fr_iconst (pc := 184) dX12_findsOther_184 (by decide) ?_
      refine fr_iload_n (pc := 185) dX12_findsOther_185 rfl rfl ?_
      refine fr_iastore (a := 172) (pc := 186) dX12_findsOther_186 rfl s0_172 (by decide) nr_172 ?_
      refine fr_aload_n (pc := 187) dX12_findsOther_187 rfl rfl ?_
      refine fr_getr (a := 142) (pc := 188) dX12_findsOther_188 rfl pf_12_106 s0_142 rfl rf_142_58 ?_
      refine fr_iconst (pc := 191) dX12_findsOther_191 (by decide) ?_
      refine fr_iload (pc := 192) dX12_findsOther_192 rfl rfl ?_
      refine fr_iastore (a := 172) (pc := 194) dX12_findsOther_194 rfl s0_172 (by decide) nr_172 ?_
      refine fr_iconst (pc := 195) dX12_findsOther_195 (by decide) ?_
      exact fr_iret (pc := 196) dX12_findsOther_196 (Or.inr (Or.inl ⟨rfl, Or.inr rfl⟩)) hq
  · refine fr_iinc (z := w32 (l3 + 1)) (ls2 := [(2, 142), (0, l1), (0, l2), (0, w32 (l3 + 1)), (0, l4), z5, z6, z7, z8]) (pc := 203) dX12_findsOther_203 (Nat.le_of_ble_eq_true rfl) rfl rfl rfl ?_
    refine fr_goto (tg := 48) (pc := 206) dX12_findsOther_206 rfl ?_
    exact hq sc d hd (0, l4) pm_t0 z5 hz5 z6 hz6 z7 hz7 z8 hz8

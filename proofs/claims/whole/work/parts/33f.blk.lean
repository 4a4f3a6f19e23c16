-- needs 30 31 32
theorem k12_go_r {M : pm_M} {K : pm_M → Prop} (hq : k12_go_0 M K) : k12_go M K := by
  intro sc d hd
  exact hq sc d hd (9, 0) pm_t9
theorem k12_go_0_r {M : pm_M} {K : pm_M → Prop} (hq : (if gI M 142 5 < gI M 142 3 then ((0 ≤ gI M 142 5 ∧ gI M 142 5 < 600) ∧ (if pm_iand (gI M 143 (gI M 142 5)) 255 = 32 then k12_go_0 (upI M 142 5 (w32 ((gI M 142 5) + 1))) K else (if pm_iand (gI M 143 (gI M 142 5)) 255 = 10 then k12_go_0 (upI M 142 5 (w32 ((gI M 142 5) + 1))) K else (if pm_iand (gI M 143 (gI M 142 5)) 255 < 0 then K (upI (upI M 142 4 (gI M 142 5)) 142 6 0) else (if pm_iand (gI M 143 (gI M 142 5)) 255 < 97 then (if pm_iand (gI M 143 (gI M 142 5)) 255 < 48 then (if w32 ((gI M 142 5) + 1) < gI M 142 3 then ((0 ≤ w32 ((gI M 142 5) + 1) ∧ w32 ((gI M 142 5) + 1) < 600) ∧ (if pm_iand (gI M 143 (w32 ((gI M 142 5) + 1))) 255 = 61 then (if pm_iand (gI M 143 (gI M 142 5)) 255 = 60 then K (upI (upI (upI (upI M 142 4 (gI M 142 5)) 142 5 (w32 ((gI M 142 5) + 2))) 142 6 3) 142 7 300) else (if pm_iand (gI M 143 (gI M 142 5)) 255 = 62 then K (upI (upI (upI (upI M 142 4 (gI M 142 5)) 142 5 (w32 ((gI M 142 5) + 2))) 142 6 3) 142 7 301) else (if pm_iand (gI M 143 (gI M 142 5)) 255 = 61 then K (upI (upI (upI (upI M 142 4 (gI M 142 5)) 142 5 (w32 ((gI M 142 5) + 2))) 142 6 3) 142 7 302) else (if pm_iand (gI M 143 (gI M 142 5)) 255 = 33 then K (upI (upI (upI (upI M 142 4 (gI M 142 5)) 142 5 (w32 ((gI M 142 5) + 2))) 142 6 3) 142 7 303) else k12_isSign (pm_iand (gI M 143 (gI M 142 5)) 255) (upI (upI M 142 4 (gI M 142 5)) 142 5 (w32 ((gI M 142 5) + 1))) (fun r16 M15 => (if r16 = 0 then K (upI (upI M15 142 6 4) 142 7 (pm_iand (gI M 143 (gI M 142 5)) 255)) else K (upI (upI M15 142 6 3) 142 7 (pm_iand (gI M 143 (gI M 142 5)) 255)))))))) else k12_isSign (pm_iand (gI M 143 (gI M 142 5)) 255) (upI (upI M 142 4 (gI M 142 5)) 142 5 (w32 ((gI M 142 5) + 1))) (fun r19 M18 => (if r19 = 0 then K (upI (upI M18 142 6 4) 142 7 (pm_iand (gI M 143 (gI M 142 5)) 255)) else K (upI (upI M18 142 6 3) 142 7 (pm_iand (gI M 143 (gI M 142 5)) 255)))))) else k12_isSign (pm_iand (gI M 143 (gI M 142 5)) 255) (upI (upI M 142 4 (gI M 142 5)) 142 5 (w32 ((gI M 142 5) + 1))) (fun r22 M21 => (if r22 = 0 then K (upI (upI M21 142 6 4) 142 7 (pm_iand (gI M 143 (gI M 142 5)) 255)) else K (upI (upI M21 142 6 3) 142 7 (pm_iand (gI M 143 (gI M 142 5)) 255))))) else (if pm_iand (gI M 143 (gI M 142 5)) 255 ≤ 57 then k12_go_134 (upI (upI M 142 4 (gI M 142 5)) 142 7 0) K else (if w32 ((gI M 142 5) + 1) < gI M 142 3 then ((0 ≤ w32 ((gI M 142 5) + 1) ∧ w32 ((gI M 142 5) + 1) < 600) ∧ (if pm_iand (gI M 143 (w32 ((gI M 142 5) + 1))) 255 = 61 then (if pm_iand (gI M 143 (gI M 142 5)) 255 = 60 then K (upI (upI (upI (upI M 142 4 (gI M 142 5)) 142 5 (w32 ((gI M 142 5) + 2))) 142 6 3) 142 7 300) else (if pm_iand (gI M 143 (gI M 142 5)) 255 = 62 then K (upI (upI (upI (upI M 142 4 (gI M 142 5)) 142 5 (w32 ((gI M 142 5) + 2))) 142 6 3) 142 7 301) else (if pm_iand (gI M 143 (gI M 142 5)) 255 = 61 then K (upI (upI (upI (upI M 142 4 (gI M 142 5)) 142 5 (w32 ((gI M 142 5) + 2))) 142 6 3) 142 7 302) else (if pm_iand (gI M 143 (gI M 142 5)) 255 = 33 then K (upI (upI (upI (upI M 142 4 (gI M 142 5)) 142 5 (w32 ((gI M 142 5) + 2))) 142 6 3) 142 7 303) else k12_isSign (pm_iand (gI M 143 (gI M 142 5)) 255) (upI (upI M 142 4 (gI M 142 5)) 142 5 (w32 ((gI M 142 5) + 1))) (fun r33 M32 => (if r33 = 0 then K (upI (upI M32 142 6 4) 142 7 (pm_iand (gI M 143 (gI M 142 5)) 255)) else K (upI (upI M32 142 6 3) 142 7 (pm_iand (gI M 143 (gI M 142 5)) 255)))))))) else k12_isSign (pm_iand (gI M 143 (gI M 142 5)) 255) (upI (upI M 142 4 (gI M 142 5)) 142 5 (w32 ((gI M 142 5) + 1))) (fun r36 M35 => (if r36 = 0 then K (upI (upI M35 142 6 4) 142 7 (pm_iand (gI M 143 (gI M 142 5)) 255)) else K (upI (upI M35 142 6 3) 142 7 (pm_iand (gI M 143 (gI M 142 5)) 255)))))) else k12_isSign (pm_iand (gI M 143 (gI M 142 5)) 255) (upI (upI M 142 4 (gI M 142 5)) 142 5 (w32 ((gI M 142 5) + 1))) (fun r39 M38 => (if r39 = 0 then K (upI (upI M38 142 6 4) 142 7 (pm_iand (gI M 143 (gI M 142 5)) 255)) else K (upI (upI M38 142 6 3) 142 7 (pm_iand (gI M 143 (gI M 142 5)) 255))))))) else (if pm_iand (gI M 143 (gI M 142 5)) 255 ≤ 122 then k12_go_79 (upI M 142 4 (gI M 142 5)) K else (if pm_iand (gI M 143 (gI M 142 5)) 255 < 48 then (if w32 ((gI M 142 5) + 1) < gI M 142 3 then ((0 ≤ w32 ((gI M 142 5) + 1) ∧ w32 ((gI M 142 5) + 1) < 600) ∧ (if pm_iand (gI M 143 (w32 ((gI M 142 5) + 1))) 255 = 61 then (if pm_iand (gI M 143 (gI M 142 5)) 255 = 60 then K (upI (upI (upI (upI M 142 4 (gI M 142 5)) 142 5 (w32 ((gI M 142 5) + 2))) 142 6 3) 142 7 300) else (if pm_iand (gI M 143 (gI M 142 5)) 255 = 62 then K (upI (upI (upI (upI M 142 4 (gI M 142 5)) 142 5 (w32 ((gI M 142 5) + 2))) 142 6 3) 142 7 301) else (if pm_iand (gI M 143 (gI M 142 5)) 255 = 61 then K (upI (upI (upI (upI M 142 4 (gI M 142 5)) 142 5 (w32 ((gI M 142 5) + 2))) 142 6 3) 142 7 302) else (if pm_iand (gI M 143 (gI M 142 5)) 255 = 33 then K (upI (upI (upI (upI M 142 4 (gI M 142 5)) 142 5 (w32 ((gI M 142 5) + 2))) 142 6 3) 142 7 303) else k12_isSign (pm_iand (gI M 143 (gI M 142 5)) 255) (upI (upI M 142 4 (gI M 142 5)) 142 5 (w32 ((gI M 142 5) + 1))) (fun r51 M50 => (if r51 = 0 then K (upI (upI M50 142 6 4) 142 7 (pm_iand (gI M 143 (gI M 142 5)) 255)) else K (upI (upI M50 142 6 3) 142 7 (pm_iand (gI M 143 (gI M 142 5)) 255)))))))) else k12_isSign (pm_iand (gI M 143 (gI M 142 5)) 255) (upI (upI M 142 4 (gI M 142 5)) 142 5 (w32 ((gI M 142 5) + 1))) (fun r54 M53 => (if r54 = 0 then K (upI (upI M53 142 6 4) 142 7 (pm_iand (gI M 143 (gI M 142 5)) 255)) else K (upI (upI M53 142 6 3) 142 7 (pm_iand (gI M 143 (gI M 142 5)) 255)))))) else k12_isSign (pm_iand (gI M 143 (gI M 142 5)) 255) (upI (upI M 142 4 (gI M 142 5)) 142 5 (w32 ((gI M 142 5) + 1))) (fun r57 M56 => (if r57 = 0 then K (upI (upI M56 142 6 4) 142 7 (pm_iand (gI M 143 (gI M 142 5)) 255)) else K (upI (upI M56 142 6 3) 142 7 (pm_iand (gI M 143 (gI M 142 5)) 255))))) else (if pm_iand (gI M 143 (gI M 142 5)) 255 ≤ 57 then k12_go_134 (upI (upI M 142 4 (gI M 142 5)) 142 7 0) K else (if w32 ((gI M 142 5) + 1) < gI M 142 3 then ((0 ≤ w32 ((gI M 142 5) + 1) ∧ w32 ((gI M 142 5) + 1) < 600) ∧ (if pm_iand (gI M 143 (w32 ((gI M 142 5) + 1))) 255 = 61 then (if pm_iand (gI M 143 (gI M 142 5)) 255 = 60 then K (upI (upI (upI (upI M 142 4 (gI M 142 5)) 142 5 (w32 ((gI M 142 5) + 2))) 142 6 3) 142 7 300) else (if pm_iand (gI M 143 (gI M 142 5)) 255 = 62 then K (upI (upI (upI (upI M 142 4 (gI M 142 5)) 142 5 (w32 ((gI M 142 5) + 2))) 142 6 3) 142 7 301) else (if pm_iand (gI M 143 (gI M 142 5)) 255 = 61 then K (upI (upI (upI (upI M 142 4 (gI M 142 5)) 142 5 (w32 ((gI M 142 5) + 2))) 142 6 3) 142 7 302) else (if pm_iand (gI M 143 (gI M 142 5)) 255 = 33 then K (upI (upI (upI (upI M 142 4 (gI M 142 5)) 142 5 (w32 ((gI M 142 5) + 2))) 142 6 3) 142 7 303) else k12_isSign (pm_iand (gI M 143 (gI M 142 5)) 255) (upI (upI M 142 4 (gI M 142 5)) 142 5 (w32 ((gI M 142 5) + 1))) (fun r68 M67 => (if r68 = 0 then K (upI (upI M67 142 6 4) 142 7 (pm_iand (gI M 143 (gI M 142 5)) 255)) else K (upI (upI M67 142 6 3) 142 7 (pm_iand (gI M 143 (gI M 142 5)) 255)))))))) else k12_isSign (pm_iand (gI M 143 (gI M 142 5)) 255) (upI (upI M 142 4 (gI M 142 5)) 142 5 (w32 ((gI M 142 5) + 1))) (fun r71 M70 => (if r71 = 0 then K (upI (upI M70 142 6 4) 142 7 (pm_iand (gI M 143 (gI M 142 5)) 255)) else K (upI (upI M70 142 6 3) 142 7 (pm_iand (gI M 143 (gI M 142 5)) 255)))))) else k12_isSign (pm_iand (gI M 143 (gI M 142 5)) 255) (upI (upI M 142 4 (gI M 142 5)) 142 5 (w32 ((gI M 142 5) + 1))) (fun r74 M73 => (if r74 = 0 then K (upI (upI M73 142 6 4) 142 7 (pm_iand (gI M 143 (gI M 142 5)) 255)) else K (upI (upI M73 142 6 3) 142 7 (pm_iand (gI M 143 (gI M 142 5)) 255))))))))))))) else K (upI (upI M 142 4 (gI M 142 5)) 142 6 0))) : k12_go_0 M K := by
  intro sc d hd z1 hz1
  refine fr_aload_n (pc := 0) dX12_go_0 rfl rfl ?_
  refine fr_aload_n (pc := 1) dX12_go_1 rfl rfl ?_
  refine fr_getf (a := 142) (i := 5) (v := gI M 142 5) (t := 0) (pc := 2) dX12_go_2 rfl pf_12_134 rfl s0_142 rfl rfl ?_
  refine fr_inVI (a := 142) (as := [(0, gI M 142 5)]) (rest := []) (ls' := [(2, 142), (0, gI M 142 5)]) (c1 := 0) (c2 := 0) (pc := 5) dX12_go_5 pl_12_137 rfl ⟨Nat.le_of_ble_eq_true rfl, Nat.le_of_ble_eq_true rfl⟩ rfl rfl rfl s0_142 (Nat.le_of_ble_eq_true rfl) (by omega) rfl rfl (pm_zc _) ?_ (fun y M' h => h)
  refine fr_iload_n (pc := 0) dX12_byteAt_0 rfl rfl ?_
  refine fr_aload_n (pc := 1) dX12_byteAt_1 rfl rfl ?_
  refine fr_getf (a := 142) (i := 3) (v := gI M 142 3) (t := 0) (pc := 2) dX12_byteAt_2 rfl pf_12_131 rfl s0_142 rfl rfl ?_
  refine fr_icm_ge (tg := 21) (pc := 5) dX12_byteAt_5 rfl hq (fun hc1 hq => ?_) (fun hc1 hq => ?_)
  · refine fr_aload_n (pc := 8) dX12_byteAt_8 rfl rfl ?_
    refine fr_getr (a := 142) (pc := 9) dX12_byteAt_9 rfl pf_12_7 s0_142 rfl rf_142_1 ?_
    refine fr_iload_n (pc := 12) dX12_byteAt_12 rfl rfl ?_
    obtain ⟨hb2, hq⟩ := hq
    refine fr_baload (a := 143) (v := gI M 143 (gI M 142 5)) (pc := 13) dX12_byteAt_13 rfl s0_143 hb2 (Or.inl rfl) rfl ?_
    refine fr_sipush (pc := 14) dX12_byteAt_14 (by decide) ?_
    refine fr_iand (z := pm_iand (gI M 143 (gI M 142 5)) 255) (pc := 17) dX12_byteAt_17 rfl ?_
    refine fr_goto (tg := 22) (pc := 18) dX12_byteAt_18 rfl ?_
    refine fr_iret (pc := 22) dX12_byteAt_22 (Or.inl rfl) ?_
    refine fr_bipush (pc := 8) dX12_go_8 (by decide) ?_
    refine fr_icm_eq (tg := 26) (pc := 10) dX12_go_10 rfl hq (fun hc3 hq => ?_) (fun hc3 hq => ?_)
    · refine fr_aload_n (pc := 26) dX12_go_26 rfl rfl ?_
      refine fr_dup (pc := 27) dX12_go_27 pm_t2 ?_
      refine fr_getf (a := 142) (i := 5) (v := gI M 142 5) (t := 0) (pc := 28) dX12_go_28 rfl pf_12_134 rfl s0_142 rfl rfl ?_
      refine fr_iconst (pc := 31) dX12_go_31 (by decide) ?_
      refine fr_iadd (z := w32 ((gI M 142 5) + 1)) (pc := 32) dX12_go_32 rfl ?_
      refine fr_put (a := 142) (i := 5) (pc := 33) dX12_go_33 rfl pf_12_134 rfl s0_142 rfl rfl nf_142_5 rfl ?_
      refine fr_goto (tg := 0) (pc := 36) dX12_go_36 rfl ?_
      exact hq sc d hd z1 hz1
    · refine fr_aload_n (pc := 13) dX12_go_13 rfl rfl ?_
      refine fr_aload_n (pc := 14) dX12_go_14 rfl rfl ?_
      refine fr_getf (a := 142) (i := 5) (v := gI M 142 5) (t := 0) (pc := 15) dX12_go_15 rfl pf_12_134 rfl s0_142 rfl rfl ?_
      refine fr_inVI (a := 142) (as := [(0, gI M 142 5)]) (rest := []) (ls' := [(2, 142), (0, gI M 142 5)]) (c1 := 0) (c2 := 0) (pc := 18) dX12_go_18 pl_12_137 rfl ⟨Nat.le_of_ble_eq_true rfl, Nat.le_of_ble_eq_true rfl⟩ rfl rfl rfl s0_142 (Nat.le_of_ble_eq_true rfl) (by omega) rfl rfl (pm_zc _) ?_ (fun y M' h => h)
      refine fr_iload_n (pc := 0) dX12_byteAt_0 rfl rfl ?_
      refine fr_aload_n (pc := 1) dX12_byteAt_1 rfl rfl ?_
      refine fr_getf (a := 142) (i := 3) (v := gI M 142 3) (t := 0) (pc := 2) dX12_byteAt_2 rfl pf_12_131 rfl s0_142 rfl rfl ?_
      refine fr_icmF (tg := 21) (pc := 5) dX12_byteAt_5 (decide_eq_false (by omega)) rfl ?_
      refine fr_aload_n (pc := 8) dX12_byteAt_8 rfl rfl ?_
      refine fr_getr (a := 142) (pc := 9) dX12_byteAt_9 rfl pf_12_7 s0_142 rfl rf_142_1 ?_
      refine fr_iload_n (pc := 12) dX12_byteAt_12 rfl rfl ?_
      refine fr_baload (a := 143) (v := gI M 143 (gI M 142 5)) (pc := 13) dX12_byteAt_13 rfl s0_143 hb2 (Or.inl rfl) rfl ?_
      refine fr_sipush (pc := 14) dX12_byteAt_14 (by decide) ?_
      refine fr_iand (z := pm_iand (gI M 143 (gI M 142 5)) 255) (pc := 17) dX12_byteAt_17 rfl ?_
      refine fr_goto (tg := 22) (pc := 18) dX12_byteAt_18 rfl ?_
      refine fr_iret (pc := 22) dX12_byteAt_22 (Or.inl rfl) ?_
      refine fr_bipush (pc := 21) dX12_go_21 (by decide) ?_
      refine fr_icm_ne (tg := 39) (pc := 23) dX12_go_23 rfl hq (fun hc4 hq => ?_) (fun hc4 hq => ?_)
      · refine fr_aload_n (pc := 26) dX12_go_26 rfl rfl ?_
        refine fr_dup (pc := 27) dX12_go_27 pm_t2 ?_
        refine fr_getf (a := 142) (i := 5) (v := gI M 142 5) (t := 0) (pc := 28) dX12_go_28 rfl pf_12_134 rfl s0_142 rfl rfl ?_
        refine fr_iconst (pc := 31) dX12_go_31 (by decide) ?_
        refine fr_iadd (z := w32 ((gI M 142 5) + 1)) (pc := 32) dX12_go_32 rfl ?_
        refine fr_put (a := 142) (i := 5) (pc := 33) dX12_go_33 rfl pf_12_134 rfl s0_142 rfl rfl nf_142_5 rfl ?_
        refine fr_goto (tg := 0) (pc := 36) dX12_go_36 rfl ?_
        exact hq sc d hd z1 hz1
      · refine fr_aload_n (pc := 39) dX12_go_39 rfl rfl ?_
        refine fr_aload_n (pc := 40) dX12_go_40 rfl rfl ?_
        refine fr_getf (a := 142) (i := 5) (v := gI M 142 5) (t := 0) (pc := 41) dX12_go_41 rfl pf_12_134 rfl s0_142 rfl rfl ?_
        refine fr_put (a := 142) (i := 4) (pc := 44) dX12_go_44 rfl pf_12_141 rfl s0_142 rfl rfl nf_142_4 rfl ?_
        refine fr_aload_n (pc := 47) dX12_go_47 rfl rfl ?_
        refine fr_aload_n (pc := 48) dX12_go_48 rfl rfl ?_
        refine fr_getf (a := 142) (i := 5) (v := gI M 142 5) (t := 0) (pc := 49) dX12_go_49 rfl pf_12_134 rfl s0_142 rfl (gI_nf _ _ (by decide)) ?_
        refine fr_inVI (a := 142) (as := [(0, gI M 142 5)]) (rest := []) (ls' := [(2, 142), (0, gI M 142 5)]) (c1 := 0) (c2 := 0) (pc := 52) dX12_go_52 pl_12_137 rfl ⟨Nat.le_of_ble_eq_true rfl, Nat.le_of_ble_eq_true rfl⟩ rfl rfl rfl s0_142 (Nat.le_of_ble_eq_true rfl) (by omega) rfl rfl (pm_zc _) ?_ (fun y M' h => h)
        refine fr_iload_n (pc := 0) dX12_byteAt_0 rfl rfl ?_
        refine fr_aload_n (pc := 1) dX12_byteAt_1 rfl rfl ?_
        refine fr_getf (a := 142) (i := 3) (v := gI M 142 3) (t := 0) (pc := 2) dX12_byteAt_2 rfl pf_12_131 rfl s0_142 rfl (gI_nf _ _ (by decide)) ?_
        refine fr_icmF (tg := 21) (pc := 5) dX12_byteAt_5 (decide_eq_false (by omega)) rfl ?_
        refine fr_aload_n (pc := 8) dX12_byteAt_8 rfl rfl ?_
        refine fr_getr (a := 142) (pc := 9) dX12_byteAt_9 rfl pf_12_7 s0_142 rfl rf_142_1 ?_
        refine fr_iload_n (pc := 12) dX12_byteAt_12 rfl rfl ?_
        refine fr_baload (a := 143) (v := gI M 143 (gI M 142 5)) (pc := 13) dX12_byteAt_13 rfl s0_143 hb2 (Or.inl rfl) (gI_ne _ _ _ _ (by decide)) ?_
        refine fr_sipush (pc := 14) dX12_byteAt_14 (by decide) ?_
        refine fr_iand (z := pm_iand (gI M 143 (gI M 142 5)) 255) (pc := 17) dX12_byteAt_17 rfl ?_
        refine fr_goto (tg := 22) (pc := 18) dX12_byteAt_18 rfl ?_
        refine fr_iret (pc := 22) dX12_byteAt_22 (Or.inl rfl) ?_
        refine fr_istore_n (ls2 := [(2, 142), (0, pm_iand (gI M 143 (gI M 142 5)) 255)]) (pc := 55) dX12_go_55 rfl (Nat.le_of_ble_eq_true rfl) rfl ?_
        refine fr_iload_n (pc := 56) dX12_go_56 rfl rfl ?_
        refine fr_ifc_ge (tg := 68) (pc := 57) dX12_go_57 rfl hq (fun hc5 hq => ?_) (fun hc5 hq => ?_)
        · refine fr_aload_n (pc := 60) dX12_go_60 rfl rfl ?_
          refine fr_iconst (pc := 61) dX12_go_61 (by decide) ?_
          refine fr_put (a := 142) (i := 6) (pc := 62) dX12_go_62 rfl pf_12_144 rfl s0_142 rfl rfl nf_142_6 rfl ?_
          refine fr_goto (tg := 364) (pc := 65) dX12_go_65 rfl ?_
          exact fr_vret (pc := 364) dX12_go_364 rfl hq
        · refine fr_iload_n (pc := 68) dX12_go_68 rfl rfl ?_
          refine fr_bipush (pc := 69) dX12_go_69 (by decide) ?_
          refine fr_bipush (pc := 71) dX12_go_71 (by decide) ?_
          refine fr_inSI (as := [(0, pm_iand (gI M 143 (gI M 142 5)) 255), (0, 97), (0, 122)]) (rest := []) (ls' := [(0, pm_iand (gI M 143 (gI M 142 5)) 255), (0, 97), (0, 122)]) (c1 := 0) (c2 := 0) (pc := 73) dX12_go_73 pl_12_147 rfl ⟨Nat.le_of_ble_eq_true rfl, Nat.le_of_ble_eq_true rfl⟩ rfl rfl  (by omega) rfl rfl (pm_zc _) ?_ (fun y M' h => h)
          refine fr_iload_n (pc := 0) dX12_within_0 rfl rfl ?_
          refine fr_iload_n (pc := 1) dX12_within_1 rfl rfl ?_
          refine fr_icm_lt (tg := 14) (pc := 2) dX12_within_2 rfl hq (fun hc6 hq => ?_) (fun hc6 hq => ?_)
          · refine fr_iconst (pc := 14) dX12_within_14 (by decide) ?_
            refine fr_iret (pc := 15) dX12_within_15 (Or.inr (Or.inl ⟨rfl, Or.inl rfl⟩)) ?_
            refine fr_ifcT (tg := 118) (pc := 76) dX12_go_76 rfl rfl ?_
            refine fr_iload_n (pc := 118) dX12_go_118 rfl rfl ?_
            refine fr_bipush (pc := 119) dX12_go_119 (by decide) ?_
            refine fr_bipush (pc := 121) dX12_go_121 (by decide) ?_
            refine fr_inSI (as := [(0, pm_iand (gI M 143 (gI M 142 5)) 255), (0, 48), (0, 57)]) (rest := []) (ls' := [(0, pm_iand (gI M 143 (gI M 142 5)) 255), (0, 48), (0, 57)]) (c1 := 0) (c2 := 0) (pc := 123) dX12_go_123 pl_12_147 rfl ⟨Nat.le_of_ble_eq_true rfl, Nat.le_of_ble_eq_true rfl⟩ rfl rfl  (by omega) rfl rfl (pm_zc _) ?_ (fun y M' h => h)
            refine fr_iload_n (pc := 0) dX12_within_0 rfl rfl ?_
            refine fr_iload_n (pc := 1) dX12_within_1 rfl rfl ?_
            refine fr_icm_lt (tg := 14) (pc := 2) dX12_within_2 rfl hq (fun hc7 hq => ?_) (fun hc7 hq => ?_)
            · refine fr_iconst (pc := 14) dX12_within_14 (by decide) ?_
              refine fr_iret (pc := 15) dX12_within_15 (Or.inr (Or.inl ⟨rfl, Or.inl rfl⟩)) ?_
              refine fr_ifcT (tg := 233) (pc := 126) dX12_go_126 rfl rfl ?_
              refine fr_aload_n (pc := 233) dX12_go_233 rfl rfl ?_
              refine fr_aload_n (pc := 234) dX12_go_234 rfl rfl ?_
              refine fr_getf (a := 142) (i := 5) (v := gI M 142 5) (t := 0) (pc := 235) dX12_go_235 rfl pf_12_134 rfl s0_142 rfl (gI_nf _ _ (by decide)) ?_
              refine fr_iconst (pc := 238) dX12_go_238 (by decide) ?_
              refine fr_iadd (z := w32 ((gI M 142 5) + 1)) (pc := 239) dX12_go_239 rfl ?_
              refine fr_inVI (a := 142) (as := [(0, w32 ((gI M 142 5) + 1))]) (rest := []) (ls' := [(2, 142), (0, w32 ((gI M 142 5) + 1))]) (c1 := 0) (c2 := 0) (pc := 240) dX12_go_240 pl_12_137 rfl ⟨Nat.le_of_ble_eq_true rfl, Nat.le_of_ble_eq_true rfl⟩ rfl rfl rfl s0_142 (Nat.le_of_ble_eq_true rfl) (by omega) rfl rfl (pm_zc _) ?_ (fun y M' h => h)
              refine fr_iload_n (pc := 0) dX12_byteAt_0 rfl rfl ?_
              refine fr_aload_n (pc := 1) dX12_byteAt_1 rfl rfl ?_
              refine fr_getf (a := 142) (i := 3) (v := gI M 142 3) (t := 0) (pc := 2) dX12_byteAt_2 rfl pf_12_131 rfl s0_142 rfl (gI_nf _ _ (by decide)) ?_
              refine fr_icm_ge (tg := 21) (pc := 5) dX12_byteAt_5 rfl hq (fun hc8 hq => ?_) (fun hc8 hq => ?_)
              · refine fr_aload_n (pc := 8) dX12_byteAt_8 rfl rfl ?_
                refine fr_getr (a := 142) (pc := 9) dX12_byteAt_9 rfl pf_12_7 s0_142 rfl rf_142_1 ?_
                refine fr_iload_n (pc := 12) dX12_byteAt_12 rfl rfl ?_
                obtain ⟨hb9, hq⟩ := hq
                refine fr_baload (a := 143) (v := gI M 143 (w32 ((gI M 142 5) + 1))) (pc := 13) dX12_byteAt_13 rfl s0_143 hb9 (Or.inl rfl) (gI_ne _ _ _ _ (by decide)) ?_
                refine fr_sipush (pc := 14) dX12_byteAt_14 (by decide) ?_
                refine fr_iand (z := pm_iand (gI M 143 (w32 ((gI M 142 5) + 1))) 255) (pc := 17) dX12_byteAt_17 rfl ?_
                refine fr_goto (tg := 22) (pc := 18) dX12_byteAt_18 rfl ?_
                refine fr_iret (pc := 22) dX12_byteAt_22 (Or.inl rfl) ?_
                refine fr_bipush (pc := 243) dX12_go_243 (by decide) ?_
                refine fr_icm_ne (tg := 333) (pc := 245) dX12_go_245 rfl hq (fun hc10 hq => ?_) (fun hc10 hq => ?_)
                · refine fr_iload_n (pc := 248) dX12_go_248 rfl rfl ?_
                  refine fr_bipush (pc := 249) dX12_go_249 (by decide) ?_
                  refine fr_icm_eq (tg := 272) (pc := 251) dX12_go_251 rfl hq (fun hc11 hq => ?_) (fun hc11 hq => ?_)
                  · refine fr_aload_n (pc := 272) dX12_go_272 rfl rfl ?_
                    refine fr_dup (pc := 273) dX12_go_273 pm_t2 ?_
                    refine fr_getf (a := 142) (i := 5) (v := gI M 142 5) (t := 0) (pc := 274) dX12_go_274 rfl pf_12_134 rfl s0_142 rfl (gI_nf _ _ (by decide)) ?_
                    refine fr_iconst (pc := 277) dX12_go_277 (by decide) ?_
                    refine fr_iadd (z := w32 ((gI M 142 5) + 2)) (pc := 278) dX12_go_278 rfl ?_
                    refine fr_put (a := 142) (i := 5) (pc := 279) dX12_go_279 rfl pf_12_134 rfl s0_142 rfl rfl nf_142_5 rfl ?_
                    refine fr_aload_n (pc := 282) dX12_go_282 rfl rfl ?_
                    refine fr_iconst (pc := 283) dX12_go_283 (by decide) ?_
                    refine fr_put (a := 142) (i := 6) (pc := 284) dX12_go_284 rfl pf_12_144 rfl s0_142 rfl rfl nf_142_6 rfl ?_
                    refine fr_aload_n (pc := 287) dX12_go_287 rfl rfl ?_
                    refine fr_iload_n (pc := 288) dX12_go_288 rfl rfl ?_
                    refine fr_bipush (pc := 289) dX12_go_289 (by decide) ?_
                    refine fr_icmF (tg := 300) (pc := 291) dX12_go_291 (decide_eq_false (fun z => z hc11)) rfl ?_
                    refine fr_sipush (pc := 294) dX12_go_294 (by decide) ?_
                    refine fr_goto (tg := 327) (pc := 297) dX12_go_297 rfl ?_
                    refine fr_put (a := 142) (i := 7) (pc := 327) dX12_go_327 rfl pf_12_151 rfl s0_142 rfl rfl nf_142_7 rfl ?_
                    refine fr_goto (tg := 364) (pc := 330) dX12_go_330 rfl ?_
                    exact fr_vret (pc := 364) dX12_go_364 rfl hq
                  · refine fr_iload_n (pc := 254) dX12_go_254 rfl rfl ?_
                    refine fr_bipush (pc := 255) dX12_go_255 (by decide) ?_
                    refine fr_icm_eq (tg := 272) (pc := 257) dX12_go_257 rfl hq (fun hc12 hq => ?_) (fun hc12 hq => ?_)
                    · refine fr_aload_n (pc := 272) dX12_go_272 rfl rfl ?_
                      refine fr_dup (pc := 273) dX12_go_273 pm_t2 ?_
                      refine fr_getf (a := 142) (i := 5) (v := gI M 142 5) (t := 0) (pc := 274) dX12_go_274 rfl pf_12_134 rfl s0_142 rfl (gI_nf _ _ (by decide)) ?_
                      refine fr_iconst (pc := 277) dX12_go_277 (by decide) ?_
                      refine fr_iadd (z := w32 ((gI M 142 5) + 2)) (pc := 278) dX12_go_278 rfl ?_
                      refine fr_put (a := 142) (i := 5) (pc := 279) dX12_go_279 rfl pf_12_134 rfl s0_142 rfl rfl nf_142_5 rfl ?_
                      refine fr_aload_n (pc := 282) dX12_go_282 rfl rfl ?_
                      refine fr_iconst (pc := 283) dX12_go_283 (by decide) ?_
                      refine fr_put (a := 142) (i := 6) (pc := 284) dX12_go_284 rfl pf_12_144 rfl s0_142 rfl rfl nf_142_6 rfl ?_
                      refine fr_aload_n (pc := 287) dX12_go_287 rfl rfl ?_
                      refine fr_iload_n (pc := 288) dX12_go_288 rfl rfl ?_
                      refine fr_bipush (pc := 289) dX12_go_289 (by decide) ?_
                      refine fr_icmT (tg := 300) (pc := 291) dX12_go_291 (decide_eq_true hc11) rfl ?_
                      refine fr_iload_n (pc := 300) dX12_go_300 rfl rfl ?_
                      refine fr_bipush (pc := 301) dX12_go_301 (by decide) ?_
                      refine fr_icmF (tg := 312) (pc := 303) dX12_go_303 (decide_eq_false (fun z => z hc12)) rfl ?_
                      refine fr_sipush (pc := 306) dX12_go_306 (by decide) ?_
                      refine fr_goto (tg := 327) (pc := 309) dX12_go_309 rfl ?_
                      refine fr_put (a := 142) (i := 7) (pc := 327) dX12_go_327 rfl pf_12_151 rfl s0_142 rfl rfl nf_142_7 rfl ?_
                      refine fr_goto (tg := 364) (pc := 330) dX12_go_330 rfl ?_
                      exact fr_vret (pc := 364) dX12_go_364 rfl hq
                    · refine fr_iload_n (pc := 260) dX12_go_260 rfl rfl ?_
                      refine fr_bipush (pc := 261) dX12_go_261 (by decide) ?_
                      refine fr_icm_eq (tg := 272) (pc := 263) dX12_go_263 rfl hq (fun hc13 hq => ?_) (fun hc13 hq => ?_)
                      · refine fr_aload_n (pc := 272) dX12_go_272 rfl rfl ?_
                        refine fr_dup (pc := 273) dX12_go_273 pm_t2 ?_
                        refine fr_getf (a := 142) (i := 5) (v := gI M 142 5) (t := 0) (pc := 274) dX12_go_274 rfl pf_12_134 rfl s0_142 rfl (gI_nf _ _ (by decide)) ?_
                        refine fr_iconst (pc := 277) dX12_go_277 (by decide) ?_
                        refine fr_iadd (z := w32 ((gI M 142 5) + 2)) (pc := 278) dX12_go_278 rfl ?_
                        refine fr_put (a := 142) (i := 5) (pc := 279) dX12_go_279 rfl pf_12_134 rfl s0_142 rfl rfl nf_142_5 rfl ?_
                        refine fr_aload_n (pc := 282) dX12_go_282 rfl rfl ?_
                        refine fr_iconst (pc := 283) dX12_go_283 (by decide) ?_
                        refine fr_put (a := 142) (i := 6) (pc := 284) dX12_go_284 rfl pf_12_144 rfl s0_142 rfl rfl nf_142_6 rfl ?_
                        refine fr_aload_n (pc := 287) dX12_go_287 rfl rfl ?_
                        refine fr_iload_n (pc := 288) dX12_go_288 rfl rfl ?_
                        refine fr_bipush (pc := 289) dX12_go_289 (by decide) ?_
                        refine fr_icmT (tg := 300) (pc := 291) dX12_go_291 (decide_eq_true hc11) rfl ?_
                        refine fr_iload_n (pc := 300) dX12_go_300 rfl rfl ?_
                        refine fr_bipush (pc := 301) dX12_go_301 (by decide) ?_
                        refine fr_icmT (tg := 312) (pc := 303) dX12_go_303 (decide_eq_true hc12) rfl ?_
                        refine fr_iload_n (pc := 312) dX12_go_312 rfl rfl ?_
                        refine fr_bipush (pc := 313) dX12_go_313 (by decide) ?_
                        refine fr_icmF (tg := 324) (pc := 315) dX12_go_315 (decide_eq_false (fun z => z hc13)) rfl ?_
                        refine fr_sipush (pc := 318) dX12_go_318 (by decide) ?_
                        refine fr_goto (tg := 327) (pc := 321) dX12_go_321 rfl ?_
                        refine fr_put (a := 142) (i := 7) (pc := 327) dX12_go_327 rfl pf_12_151 rfl s0_142 rfl rfl nf_142_7 rfl ?_
                        refine fr_goto (tg := 364) (pc := 330) dX12_go_330 rfl ?_
                        exact fr_vret (pc := 364) dX12_go_364 rfl hq
                      · refine fr_iload_n (pc := 266) dX12_go_266 rfl rfl ?_
                        refine fr_bipush (pc := 267) dX12_go_267 (by decide) ?_
                        refine fr_icm_ne (tg := 333) (pc := 269) dX12_go_269 rfl hq (fun hc14 hq => ?_) (fun hc14 hq => ?_)
                        · refine fr_aload_n (pc := 272) dX12_go_272 rfl rfl ?_
                          refine fr_dup (pc := 273) dX12_go_273 pm_t2 ?_
                          refine fr_getf (a := 142) (i := 5) (v := gI M 142 5) (t := 0) (pc := 274) dX12_go_274 rfl pf_12_134 rfl s0_142 rfl (gI_nf _ _ (by decide)) ?_
                          refine fr_iconst (pc := 277) dX12_go_277 (by decide) ?_
                          refine fr_iadd (z := w32 ((gI M 142 5) + 2)) (pc := 278) dX12_go_278 rfl ?_
                          refine fr_put (a := 142) (i := 5) (pc := 279) dX12_go_279 rfl pf_12_134 rfl s0_142 rfl rfl nf_142_5 rfl ?_
                          refine fr_aload_n (pc := 282) dX12_go_282 rfl rfl ?_
                          refine fr_iconst (pc := 283) dX12_go_283 (by decide) ?_
                          refine fr_put (a := 142) (i := 6) (pc := 284) dX12_go_284 rfl pf_12_144 rfl s0_142 rfl rfl nf_142_6 rfl ?_
                          refine fr_aload_n (pc := 287) dX12_go_287 rfl rfl ?_
                          refine fr_iload_n (pc := 288) dX12_go_288 rfl rfl ?_
                          refine fr_bipush (pc := 289) dX12_go_289 (by decide) ?_
                          refine fr_icmT (tg := 300) (pc := 291) dX12_go_291 (decide_eq_true hc11) rfl ?_
                          refine fr_iload_n (pc := 300) dX12_go_300 rfl rfl ?_
                          refine fr_bipush (pc := 301) dX12_go_301 (by decide) ?_
                          refine fr_icmT (tg := 312) (pc := 303) dX12_go_303 (decide_eq_true hc12) rfl ?_
                          refine fr_iload_n (pc := 312) dX12_go_312 rfl rfl ?_
                          refine fr_bipush (pc := 313) dX12_go_313 (by decide) ?_
                          refine fr_icmT (tg := 324) (pc := 315) dX12_go_315 (decide_eq_true hc13) rfl ?_
                          refine fr_sipush (pc := 324) dX12_go_324 (by decide) ?_
                          refine fr_put (a := 142) (i := 7) (pc := 327) dX12_go_327 rfl pf_12_151 rfl s0_142 rfl rfl nf_142_7 rfl ?_
                          refine fr_goto (tg := 364) (pc := 330) dX12_go_330 rfl ?_
                          exact fr_vret (pc := 364) dX12_go_364 rfl hq
                        · refine fr_aload_n (pc := 333) dX12_go_333 rfl rfl ?_
                          refine fr_dup (pc := 334) dX12_go_334 pm_t2 ?_
                          refine fr_getf (a := 142) (i := 5) (v := gI M 142 5) (t := 0) (pc := 335) dX12_go_335 rfl pf_12_134 rfl s0_142 rfl (gI_nf _ _ (by decide)) ?_
                          refine fr_iconst (pc := 338) dX12_go_338 (by decide) ?_
                          refine fr_iadd (z := w32 ((gI M 142 5) + 1)) (pc := 339) dX12_go_339 rfl ?_
                          refine fr_put (a := 142) (i := 5) (pc := 340) dX12_go_340 rfl pf_12_134 rfl s0_142 rfl rfl nf_142_5 rfl ?_
                          refine fr_aload_n (pc := 343) dX12_go_343 rfl rfl ?_
                          refine fr_iload_n (pc := 344) dX12_go_344 rfl rfl ?_
                          refine fr_inSI (as := [(0, pm_iand (gI M 143 (gI M 142 5)) 255)]) (rest := [(2, 142)]) (ls' := [(0, pm_iand (gI M 143 (gI M 142 5)) 255)]) (c1 := 0) (c2 := 0) (pc := 345) dX12_go_345 pl_12_154 rfl ⟨Nat.le_of_ble_eq_true rfl, Nat.le_of_ble_eq_true rfl⟩ rfl rfl  (by omega) rfl rfl (pm_zc _) (hq sc _ (by omega)) (fun r16 M15 hq => ?_)
                          refine fr_ifc_eq (tg := 355) (pc := 348) dX12_go_348 rfl hq (fun hc17 hq => ?_) (fun hc17 hq => ?_)
                          · refine fr_iconst (pc := 355) dX12_go_355 (by decide) ?_
                            refine fr_put (a := 142) (i := 6) (pc := 356) dX12_go_356 rfl pf_12_144 rfl s0_142 rfl rfl nf_142_6 rfl ?_
                            refine fr_aload_n (pc := 359) dX12_go_359 rfl rfl ?_
                            refine fr_iload_n (pc := 360) dX12_go_360 rfl rfl ?_
                            refine fr_put (a := 142) (i := 7) (pc := 361) dX12_go_361 rfl pf_12_151 rfl s0_142 rfl rfl nf_142_7 rfl ?_
                            exact fr_vret (pc := 364) dX12_go_364 rfl hq
                          · refine fr_iconst (pc := 351) dX12_go_351 (by decide) ?_
                            refine fr_goto (tg := 356) (pc := 352) dX12_go_352 rfl ?_
                            refine fr_put (a := 142) (i := 6) (pc := 356) dX12_go_356 rfl pf_12_144 rfl s0_142 rfl rfl nf_142_6 rfl ?_
                            refine fr_aload_n (pc := 359) dX12_go_359 rfl rfl ?_
                            refine fr_iload_n (pc := 360) dX12_go_360 rfl rfl ?_
                            refine fr_put (a := 142) (i := 7) (pc := 361) dX12_go_361 rfl pf_12_151 rfl s0_142 rfl rfl nf_142_7 rfl ?_
                            exact fr_vret (pc := 364) dX12_go_364 rfl hq
                · refine fr_aload_n (pc := 333) dX12_go_333 rfl rfl ?_
                  refine fr_dup (pc := 334) dX12_go_334 pm_t2 ?_
                  refine fr_getf (a := 142) (i := 5) (v := gI M 142 5) (t := 0) (pc := 335) dX12_go_335 rfl pf_12_134 rfl s0_142 rfl (gI_nf _ _ (by decide)) ?_
                  refine fr_iconst (pc := 338) dX12_go_338 (by decide) ?_
                  refine fr_iadd (z := w32 ((gI M 142 5) + 1)) (pc := 339) dX12_go_339 rfl ?_
                  refine fr_put (a := 142) (i := 5) (pc := 340) dX12_go_340 rfl pf_12_134 rfl s0_142 rfl rfl nf_142_5 rfl ?_
                  refine fr_aload_n (pc := 343) dX12_go_343 rfl rfl ?_
                  refine fr_iload_n (pc := 344) dX12_go_344 rfl rfl ?_
                  refine fr_inSI (as := [(0, pm_iand (gI M 143 (gI M 142 5)) 255)]) (rest := [(2, 142)]) (ls' := [(0, pm_iand (gI M 143 (gI M 142 5)) 255)]) (c1 := 0) (c2 := 0) (pc := 345) dX12_go_345 pl_12_154 rfl ⟨Nat.le_of_ble_eq_true rfl, Nat.le_of_ble_eq_true rfl⟩ rfl rfl  (by omega) rfl rfl (pm_zc _) (hq sc _ (by omega)) (fun r19 M18 hq => ?_)
                  refine fr_ifc_eq (tg := 355) (pc := 348) dX12_go_348 rfl hq (fun hc20 hq => ?_) (fun hc20 hq => ?_)
                  · refine fr_iconst (pc := 355) dX12_go_355 (by decide) ?_
                    refine fr_put (a := 142) (i := 6) (pc := 356) dX12_go_356 rfl pf_12_144 rfl s0_142 rfl rfl nf_142_6 rfl ?_
                    refine fr_aload_n (pc := 359) dX12_go_359 rfl rfl ?_
                    refine fr_iload_n (pc := 360) dX12_go_360 rfl rfl ?_
                    refine fr_put (a := 142) (i := 7) (pc := 361) dX12_go_361 rfl pf_12_151 rfl s0_142 rfl rfl nf_142_7 rfl ?_
                    exact fr_vret (pc := 364) dX12_go_364 rfl hq
                  · refine fr_iconst (pc := 351) dX12_go_351 (by decide) ?_
                    refine fr_goto (tg := 356) (pc := 352) dX12_go_352 rfl ?_
                    refine fr_put (a := 142) (i := 6) (pc := 356) dX12_go_356 rfl pf_12_144 rfl s0_142 rfl rfl nf_142_6 rfl ?_
                    refine fr_aload_n (pc := 359) dX12_go_359 rfl rfl ?_
                    refine fr_iload_n (pc := 360) dX12_go_360 rfl rfl ?_
                    refine fr_put (a := 142) (i := 7) (pc := 361) dX12_go_361 rfl pf_12_151 rfl s0_142 rfl rfl nf_142_7 rfl ?_
                    exact fr_vret (pc := 364) dX12_go_364 rfl hq
              · refine fr_iconst (pc := 21) dX12_byteAt_21 (by decide) ?_
                refine fr_iret (pc := 22) dX12_byteAt_22 (Or.inl rfl) ?_
                refine fr_bipush (pc := 243) dX12_go_243 (by decide) ?_
                refine fr_icmT (tg := 333) (pc := 245) dX12_go_245 rfl rfl ?_
                refine fr_aload_n (pc := 333) dX12_go_333 rfl rfl ?_
                refine fr_dup (pc := 334) dX12_go_334 pm_t2 ?_
                refine fr_getf (a := 142) (i := 5) (v := gI M 142 5) (t := 0) (pc := 335) dX12_go_335 rfl pf_12_134 rfl s0_142 rfl (gI_nf _ _ (by decide)) ?_
                refine fr_iconst (pc := 338) dX12_go_338 (by decide) ?_
                refine fr_iadd (z := w32 ((gI M 142 5) + 1)) (pc := 339) dX12_go_339 rfl ?_
                refine fr_put (a := 142) (i := 5) (pc := 340) dX12_go_340 rfl pf_12_134 rfl s0_142 rfl rfl nf_142_5 rfl ?_
                refine fr_aload_n (pc := 343) dX12_go_343 rfl rfl ?_
                refine fr_iload_n (pc := 344) dX12_go_344 rfl rfl ?_
                refine fr_inSI (as := [(0, pm_iand (gI M 143 (gI M 142 5)) 255)]) (rest := [(2, 142)]) (ls' := [(0, pm_iand (gI M 143 (gI M 142 5)) 255)]) (c1 := 0) (c2 := 0) (pc := 345) dX12_go_345 pl_12_154 rfl ⟨Nat.le_of_ble_eq_true rfl, Nat.le_of_ble_eq_true rfl⟩ rfl rfl  (by omega) rfl rfl (pm_zc _) (hq sc _ (by omega)) (fun r22 M21 hq => ?_)
                refine fr_ifc_eq (tg := 355) (pc := 348) dX12_go_348 rfl hq (fun hc23 hq => ?_) (fun hc23 hq => ?_)
                · refine fr_iconst (pc := 355) dX12_go_355 (by decide) ?_
                  refine fr_put (a := 142) (i := 6) (pc := 356) dX12_go_356 rfl pf_12_144 rfl s0_142 rfl rfl nf_142_6 rfl ?_
                  refine fr_aload_n (pc := 359) dX12_go_359 rfl rfl ?_
                  refine fr_iload_n (pc := 360) dX12_go_360 rfl rfl ?_
                  refine fr_put (a := 142) (i := 7) (pc := 361) dX12_go_361 rfl pf_12_151 rfl s0_142 rfl rfl nf_142_7 rfl ?_
                  exact fr_vret (pc := 364) dX12_go_364 rfl hq
                · refine fr_iconst (pc := 351) dX12_go_351 (by decide) ?_
                  refine fr_goto (tg := 356) (pc := 352) dX12_go_352 rfl ?_
                  refine fr_put (a := 142) (i := 6) (pc := 356) dX12_go_356 rfl pf_12_144 rfl s0_142 rfl rfl nf_142_6 rfl ?_
                  refine fr_aload_n (pc := 359) dX12_go_359 rfl rfl ?_
                  refine fr_iload_n (pc := 360) dX12_go_360 rfl rfl ?_
                  refine fr_put (a := 142) (i := 7) (pc := 361) dX12_go_361 rfl pf_12_151 rfl s0_142 rfl rfl nf_142_7 rfl ?_
                  exact fr_vret (pc := 364) dX12_go_364 rfl hq
            · refine fr_iload_n (pc := 5) dX12_within_5 rfl rfl ?_
              refine fr_iload_n (pc := 6) dX12_within_6 rfl rfl ?_
              refine fr_icm_gt (tg := 14) (pc := 7) dX12_within_7 rfl hq (fun hc24 hq => ?_) (fun hc24 hq => ?_)
              · refine fr_iconst (pc := 10) dX12_within_10 (by decide) ?_
                refine fr_goto (tg := 15) (pc := 11) dX12_within_11 rfl ?_
                refine fr_iret (pc := 15) dX12_within_15 (Or.inr (Or.inl ⟨rfl, Or.inr rfl⟩)) ?_
                refine fr_ifcF (tg := 233) (pc := 126) dX12_go_126 rfl rfl ?_
                refine fr_aload_n (pc := 129) dX12_go_129 rfl rfl ?_
                refine fr_iconst (pc := 130) dX12_go_130 (by decide) ?_
                refine fr_put (a := 142) (i := 7) (pc := 131) dX12_go_131 rfl pf_12_151 rfl s0_142 rfl rfl nf_142_7 rfl ?_
                exact hq sc d hd (0, pm_iand (gI M 143 (gI M 142 5)) 255) pm_t0
              · refine fr_iconst (pc := 14) dX12_within_14 (by decide) ?_
                refine fr_iret (pc := 15) dX12_within_15 (Or.inr (Or.inl ⟨rfl, Or.inl rfl⟩)) ?_
                refine fr_ifcT (tg := 233) (pc := 126) dX12_go_126 rfl rfl ?_
                refine fr_aload_n (pc := 233) dX12_go_233 rfl rfl ?_
                refine fr_aload_n (pc := 234) dX12_go_234 rfl rfl ?_
                refine fr_getf (a := 142) (i := 5) (v := gI M 142 5) (t := 0) (pc := 235) dX12_go_235 rfl pf_12_134 rfl s0_142 rfl (gI_nf _ _ (by decide)) ?_
                refine fr_iconst (pc := 238) dX12_go_238 (by decide) ?_
                refine fr_iadd (z := w32 ((gI M 142 5) + 1)) (pc := 239) dX12_go_239 rfl ?_
                refine fr_inVI (a := 142) (as := [(0, w32 ((gI M 142 5) + 1))]) (rest := []) (ls' := [(2, 142), (0, w32 ((gI M 142 5) + 1))]) (c1 := 0) (c2 := 0) (pc := 240) dX12_go_240 pl_12_137 rfl ⟨Nat.le_of_ble_eq_true rfl, Nat.le_of_ble_eq_true rfl⟩ rfl rfl rfl s0_142 (Nat.le_of_ble_eq_true rfl) (by omega) rfl rfl (pm_zc _) ?_ (fun y M' h => h)
                refine fr_iload_n (pc := 0) dX12_byteAt_0 rfl rfl ?_
                refine fr_aload_n (pc := 1) dX12_byteAt_1 rfl rfl ?_
                refine fr_getf (a := 142) (i := 3) (v := gI M 142 3) (t := 0) (pc := 2) dX12_byteAt_2 rfl pf_12_131 rfl s0_142 rfl (gI_nf _ _ (by decide)) ?_
                refine fr_icm_ge (tg := 21) (pc := 5) dX12_byteAt_5 rfl hq (fun hc25 hq => ?_) (fun hc25 hq => ?_)
                · refine fr_aload_n (pc := 8) dX12_byteAt_8 rfl rfl ?_
                  refine fr_getr (a := 142) (pc := 9) dX12_byteAt_9 rfl pf_12_7 s0_142 rfl rf_142_1 ?_
                  refine fr_iload_n (pc := 12) dX12_byteAt_12 rfl rfl ?_
                  obtain ⟨hb26, hq⟩ := hq
                  refine fr_baload (a := 143) (v := gI M 143 (w32 ((gI M 142 5) + 1))) (pc := 13) dX12_byteAt_13 rfl s0_143 hb26 (Or.inl rfl) (gI_ne _ _ _ _ (by decide)) ?_
                  refine fr_sipush (pc := 14) dX12_byteAt_14 (by decide) ?_
                  refine fr_iand (z := pm_iand (gI M 143 (w32 ((gI M 142 5) + 1))) 255) (pc := 17) dX12_byteAt_17 rfl ?_
                  refine fr_goto (tg := 22) (pc := 18) dX12_byteAt_18 rfl ?_
                  refine fr_iret (pc := 22) dX12_byteAt_22 (Or.inl rfl) ?_
                  refine fr_bipush (pc := 243) dX12_go_243 (by decide) ?_
                  refine fr_icm_ne (tg := 333) (pc := 245) dX12_go_245 rfl hq (fun hc27 hq => ?_) (fun hc27 hq => ?_)
                  · refine fr_iload_n (pc := 248) dX12_go_248 rfl rfl ?_
                    refine fr_bipush (pc := 249) dX12_go_249 (by decide) ?_
                    refine fr_icm_eq (tg := 272) (pc := 251) dX12_go_251 rfl hq (fun hc28 hq => ?_) (fun hc28 hq => ?_)
                    · refine fr_aload_n (pc := 272) dX12_go_272 rfl rfl ?_
                      refine fr_dup (pc := 273) dX12_go_273 pm_t2 ?_
                      refine fr_getf (a := 142) (i := 5) (v := gI M 142 5) (t := 0) (pc := 274) dX12_go_274 rfl pf_12_134 rfl s0_142 rfl (gI_nf _ _ (by decide)) ?_
                      refine fr_iconst (pc := 277) dX12_go_277 (by decide) ?_
                      refine fr_iadd (z := w32 ((gI M 142 5) + 2)) (pc := 278) dX12_go_278 rfl ?_
                      refine fr_put (a := 142) (i := 5) (pc := 279) dX12_go_279 rfl pf_12_134 rfl s0_142 rfl rfl nf_142_5 rfl ?_
                      refine fr_aload_n (pc := 282) dX12_go_282 rfl rfl ?_
                      refine fr_iconst (pc := 283) dX12_go_283 (by decide) ?_
                      refine fr_put (a := 142) (i := 6) (pc := 284) dX12_go_284 rfl pf_12_144 rfl s0_142 rfl rfl nf_142_6 rfl ?_
                      refine fr_aload_n (pc := 287) dX12_go_287 rfl rfl ?_
                      refine fr_iload_n (pc := 288) dX12_go_288 rfl rfl ?_
                      refine fr_bipush (pc := 289) dX12_go_289 (by decide) ?_
                      refine fr_icmF (tg := 300) (pc := 291) dX12_go_291 (decide_eq_false (fun z => z hc28)) rfl ?_
                      refine fr_sipush (pc := 294) dX12_go_294 (by decide) ?_
                      refine fr_goto (tg := 327) (pc := 297) dX12_go_297 rfl ?_
                      refine fr_put (a := 142) (i := 7) (pc := 327) dX12_go_327 rfl pf_12_151 rfl s0_142 rfl rfl nf_142_7 rfl ?_
                      refine fr_goto (tg := 364) (pc := 330) dX12_go_330 rfl ?_
                      exact fr_vret (pc := 364) dX12_go_364 rfl hq
                    · refine fr_iload_n (pc := 254) dX12_go_254 rfl rfl ?_
                      refine fr_bipush (pc := 255) dX12_go_255 (by decide) ?_
                      refine fr_icm_eq (tg := 272) (pc := 257) dX12_go_257 rfl hq (fun hc29 hq => ?_) (fun hc29 hq => ?_)
                      · refine fr_aload_n (pc := 272) dX12_go_272 rfl rfl ?_
                        refine fr_dup (pc := 273) dX12_go_273 pm_t2 ?_
                        refine fr_getf (a := 142) (i := 5) (v := gI M 142 5) (t := 0) (pc := 274) dX12_go_274 rfl pf_12_134 rfl s0_142 rfl (gI_nf _ _ (by decide)) ?_
                        refine fr_iconst (pc := 277) dX12_go_277 (by decide) ?_
                        refine fr_iadd (z := w32 ((gI M 142 5) + 2)) (pc := 278) dX12_go_278 rfl ?_
                        refine fr_put (a := 142) (i := 5) (pc := 279) dX12_go_279 rfl pf_12_134 rfl s0_142 rfl rfl nf_142_5 rfl ?_
                        refine fr_aload_n (pc := 282) dX12_go_282 rfl rfl ?_
                        refine fr_iconst (pc := 283) dX12_go_283 (by decide) ?_
                        refine fr_put (a := 142) (i := 6) (pc := 284) dX12_go_284 rfl pf_12_144 rfl s0_142 rfl rfl nf_142_6 rfl ?_
                        refine fr_aload_n (pc := 287) dX12_go_287 rfl rfl ?_
                        refine fr_iload_n (pc := 288) dX12_go_288 rfl rfl ?_
                        refine fr_bipush (pc := 289) dX12_go_289 (by decide) ?_
                        refine fr_icmT (tg := 300) (pc := 291) dX12_go_291 (decide_eq_true hc28) rfl ?_
                        refine fr_iload_n (pc := 300) dX12_go_300 rfl rfl ?_
                        refine fr_bipush (pc := 301) dX12_go_301 (by decide) ?_
                        refine fr_icmF (tg := 312) (pc := 303) dX12_go_303 (decide_eq_false (fun z => z hc29)) rfl ?_
                        refine fr_sipush (pc := 306) dX12_go_306 (by decide) ?_
                        refine fr_goto (tg := 327) (pc := 309) dX12_go_309 rfl ?_
                        refine fr_put (a := 142) (i := 7) (pc := 327) dX12_go_327 rfl pf_12_151 rfl s0_142 rfl rfl nf_142_7 rfl ?_
                        refine fr_goto (tg := 364) (pc := 330) dX12_go_330 rfl ?_
                        exact fr_vret (pc := 364) dX12_go_364 rfl hq
                      · refine fr_iload_n (pc := 260) dX12_go_260 rfl rfl ?_
                        refine fr_bipush (pc := 261) dX12_go_261 (by decide) ?_
                        refine fr_icm_eq (tg := 272) (pc := 263) dX12_go_263 rfl hq (fun hc30 hq => ?_) (fun hc30 hq => ?_)
                        · refine fr_aload_n (pc := 272) dX12_go_272 rfl rfl ?_
                          refine fr_dup (pc := 273) dX12_go_273 pm_t2 ?_
                          refine fr_getf (a := 142) (i := 5) (v := gI M 142 5) (t := 0) (pc := 274) dX12_go_274 rfl pf_12_134 rfl s0_142 rfl (gI_nf _ _ (by decide)) ?_
                          refine fr_iconst (pc := 277) dX12_go_277 (by decide) ?_
                          refine fr_iadd (z := w32 ((gI M 142 5) + 2)) (pc := 278) dX12_go_278 rfl ?_
                          refine fr_put (a := 142) (i := 5) (pc := 279) dX12_go_279 rfl pf_12_134 rfl s0_142 rfl rfl nf_142_5 rfl ?_
                          refine fr_aload_n (pc := 282) dX12_go_282 rfl rfl ?_
                          refine fr_iconst (pc := 283) dX12_go_283 (by decide) ?_
                          refine fr_put (a := 142) (i := 6) (pc := 284) dX12_go_284 rfl pf_12_144 rfl s0_142 rfl rfl nf_142_6 rfl ?_
                          refine fr_aload_n (pc := 287) dX12_go_287 rfl rfl ?_
                          refine fr_iload_n (pc := 288) dX12_go_288 rfl rfl ?_
                          refine fr_bipush (pc := 289) dX12_go_289 (by decide) ?_
                          refine fr_icmT (tg := 300) (pc := 291) dX12_go_291 (decide_eq_true hc28) rfl ?_
                          refine fr_iload_n (pc := 300) dX12_go_300 rfl rfl ?_
                          refine fr_bipush (pc := 301) dX12_go_301 (by decide) ?_
                          refine fr_icmT (tg := 312) (pc := 303) dX12_go_303 (decide_eq_true hc29) rfl ?_
                          refine fr_iload_n (pc := 312) dX12_go_312 rfl rfl ?_
                          refine fr_bipush (pc := 313) dX12_go_313 (by decide) ?_
                          refine fr_icmF (tg := 324) (pc := 315) dX12_go_315 (decide_eq_false (fun z => z hc30)) rfl ?_
                          refine fr_sipush (pc := 318) dX12_go_318 (by decide) ?_
                          refine fr_goto (tg := 327) (pc := 321) dX12_go_321 rfl ?_
                          refine fr_put (a := 142) (i := 7) (pc := 327) dX12_go_327 rfl pf_12_151 rfl s0_142 rfl rfl nf_142_7 rfl ?_
                          refine fr_goto (tg := 364) (pc := 330) dX12_go_330 rfl ?_
                          exact fr_vret (pc := 364) dX12_go_364 rfl hq
                        · refine fr_iload_n (pc := 266) dX12_go_266 rfl rfl ?_
                          refine fr_bipush (pc := 267) dX12_go_267 (by decide) ?_
                          refine fr_icm_ne (tg := 333) (pc := 269) dX12_go_269 rfl hq (fun hc31 hq => ?_) (fun hc31 hq => ?_)
                          · refine fr_aload_n (pc := 272) dX12_go_272 rfl rfl ?_
                            refine fr_dup (pc := 273) dX12_go_273 pm_t2 ?_
                            refine fr_getf (a := 142) (i := 5) (v := gI M 142 5) (t := 0) (pc := 274) dX12_go_274 rfl pf_12_134 rfl s0_142 rfl (gI_nf _ _ (by decide)) ?_
                            refine fr_iconst (pc := 277) dX12_go_277 (by decide) ?_
                            refine fr_iadd (z := w32 ((gI M 142 5) + 2)) (pc := 278) dX12_go_278 rfl ?_
                            refine fr_put (a := 142) (i := 5) (pc := 279) dX12_go_279 rfl pf_12_134 rfl s0_142 rfl rfl nf_142_5 rfl ?_
                            refine fr_aload_n (pc := 282) dX12_go_282 rfl rfl ?_
                            refine fr_iconst (pc := 283) dX12_go_283 (by decide) ?_
                            refine fr_put (a := 142) (i := 6) (pc := 284) dX12_go_284 rfl pf_12_144 rfl s0_142 rfl rfl nf_142_6 rfl ?_
                            refine fr_aload_n (pc := 287) dX12_go_287 rfl rfl ?_
                            refine fr_iload_n (pc := 288) dX12_go_288 rfl rfl ?_
                            refine fr_bipush (pc := 289) dX12_go_289 (by decide) ?_
                            refine fr_icmT (tg := 300) (pc := 291) dX12_go_291 (decide_eq_true hc28) rfl ?_
                            refine fr_iload_n (pc := 300) dX12_go_300 rfl rfl ?_
                            refine fr_bipush (pc := 301) dX12_go_301 (by decide) ?_
                            refine fr_icmT (tg := 312) (pc := 303) dX12_go_303 (decide_eq_true hc29) rfl ?_
                            refine fr_iload_n (pc := 312) dX12_go_312 rfl rfl ?_
                            refine fr_bipush (pc := 313) dX12_go_313 (by decide) ?_
                            refine fr_icmT (tg := 324) (pc := 315) dX12_go_315 (decide_eq_true hc30) rfl ?_
                            refine fr_sipush (pc := 324) dX12_go_324 (by decide) ?_
                            refine fr_put (a := 142) (i := 7) (pc := 327) dX12_go_327 rfl pf_12_151 rfl s0_142 rfl rfl nf_142_7 rfl ?_
                            refine fr_goto (tg := 364) (pc := 330) dX12_go_330 rfl ?_
                            exact fr_vret (pc := 364) dX12_go_364 rfl hq
                          · refine fr_aload_n (pc := 333) dX12_go_333 rfl rfl ?_
                            refine fr_dup (pc := 334) dX12_go_334 pm_t2 ?_
                            refine fr_getf (a := 142) (i := 5) (v := gI M 142 5) (t := 0) (pc := 335) dX12_go_335 rfl pf_12_134 rfl s0_142 rfl (gI_nf _ _ (by decide)) ?_
                            refine fr_iconst (pc := 338) dX12_go_338 (by decide) ?_
                            refine fr_iadd (z := w32 ((gI M 142 5) + 1)) (pc := 339) dX12_go_339 rfl ?_
                            refine fr_put (a := 142) (i := 5) (pc := 340) dX12_go_340 rfl pf_12_134 rfl s0_142 rfl rfl nf_142_5 rfl ?_
                            refine fr_aload_n (pc := 343) dX12_go_343 rfl rfl ?_
                            refine fr_iload_n (pc := 344) dX12_go_344 rfl rfl ?_
                            refine fr_inSI (as := [(0, pm_iand (gI M 143 (gI M 142 5)) 255)]) (rest := [(2, 142)]) (ls' := [(0, pm_iand (gI M 143 (gI M 142 5)) 255)]) (c1 := 0) (c2 := 0) (pc := 345) dX12_go_345 pl_12_154 rfl ⟨Nat.le_of_ble_eq_true rfl, Nat.le_of_ble_eq_true rfl⟩ rfl rfl  (by omega) rfl rfl (pm_zc _) (hq sc _ (by omega)) (fun r33 M32 hq => ?_)
                            refine fr_ifc_eq (tg := 355) (pc := 348) dX12_go_348 rfl hq (fun hc34 hq => ?_) (fun hc34 hq => ?_)
                            · refine fr_iconst (pc := 355) dX12_go_355 (by decide) ?_
                              refine fr_put (a := 142) (i := 6) (pc := 356) dX12_go_356 rfl pf_12_144 rfl s0_142 rfl rfl nf_142_6 rfl ?_
                              refine fr_aload_n (pc := 359) dX12_go_359 rfl rfl ?_
                              refine fr_iload_n (pc := 360) dX12_go_360 rfl rfl ?_
                              refine fr_put (a := 142) (i := 7) (pc := 361) dX12_go_361 rfl pf_12_151 rfl s0_142 rfl rfl nf_142_7 rfl ?_
                              exact fr_vret (pc := 364) dX12_go_364 rfl hq
                            · refine fr_iconst (pc := 351) dX12_go_351 (by decide) ?_
                              refine fr_goto (tg := 356) (pc := 352) dX12_go_352 rfl ?_
                              refine fr_put (a := 142) (i := 6) (pc := 356) dX12_go_356 rfl pf_12_144 rfl s0_142 rfl rfl nf_142_6 rfl ?_
                              refine fr_aload_n (pc := 359) dX12_go_359 rfl rfl ?_
                              refine fr_iload_n (pc := 360) dX12_go_360 rfl rfl ?_
                              refine fr_put (a := 142) (i := 7) (pc := 361) dX12_go_361 rfl pf_12_151 rfl s0_142 rfl rfl nf_142_7 rfl ?_
                              exact fr_vret (pc := 364) dX12_go_364 rfl hq
                  · refine fr_aload_n (pc := 333) dX12_go_333 rfl rfl ?_
                    refine fr_dup (pc := 334) dX12_go_334 pm_t2 ?_
                    refine fr_getf (a := 142) (i := 5) (v := gI M 142 5) (t := 0) (pc := 335) dX12_go_335 rfl pf_12_134 rfl s0_142 rfl (gI_nf _ _ (by decide)) ?_
                    refine fr_iconst (pc := 338) dX12_go_338 (by decide) ?_
                    refine fr_iadd (z := w32 ((gI M 142 5) + 1)) (pc := 339) dX12_go_339 rfl ?_
                    refine fr_put (a := 142) (i := 5) (pc := 340) dX12_go_340 rfl pf_12_134 rfl s0_142 rfl rfl nf_142_5 rfl ?_
                    refine fr_aload_n (pc := 343) dX12_go_343 rfl rfl ?_
                    refine fr_iload_n (pc := 344) dX12_go_344 rfl rfl ?_
                    refine fr_inSI (as := [(0, pm_iand (gI M 143 (gI M 142 5)) 255)]) (rest := [(2, 142)]) (ls' := [(0, pm_iand (gI M 143 (gI M 142 5)) 255)]) (c1 := 0) (c2 := 0) (pc := 345) dX12_go_345 pl_12_154 rfl ⟨Nat.le_of_ble_eq_true rfl, Nat.le_of_ble_eq_true rfl⟩ rfl rfl  (by omega) rfl rfl (pm_zc _) (hq sc _ (by omega)) (fun r36 M35 hq => ?_)
                    refine fr_ifc_eq (tg := 355) (pc := 348) dX12_go_348 rfl hq (fun hc37 hq => ?_) (fun hc37 hq => ?_)
                    · refine fr_iconst (pc := 355) dX12_go_355 (by decide) ?_
                      refine fr_put (a := 142) (i := 6) (pc := 356) dX12_go_356 rfl pf_12_144 rfl s0_142 rfl rfl nf_142_6 rfl ?_
                      refine fr_aload_n (pc := 359) dX12_go_359 rfl rfl ?_
                      refine fr_iload_n (pc := 360) dX12_go_360 rfl rfl ?_
                      refine fr_put (a := 142) (i := 7) (pc := 361) dX12_go_361 rfl pf_12_151 rfl s0_142 rfl rfl nf_142_7 rfl ?_
                      exact fr_vret (pc := 364) dX12_go_364 rfl hq
                    · refine fr_iconst (pc := 351) dX12_go_351 (by decide) ?_
                      refine fr_goto (tg := 356) (pc := 352) dX12_go_352 rfl ?_
                      refine fr_put (a := 142) (i := 6) (pc := 356) dX12_go_356 rfl pf_12_144 rfl s0_142 rfl rfl nf_142_6 rfl ?_
                      refine fr_aload_n (pc := 359) dX12_go_359 rfl rfl ?_
                      refine fr_iload_n (pc := 360) dX12_go_360 rfl rfl ?_
                      refine fr_put (a := 142) (i := 7) (pc := 361) dX12_go_361 rfl pf_12_151 rfl s0_142 rfl rfl nf_142_7 rfl ?_
                      exact fr_vret (pc := 364) dX12_go_364 rfl hq
                · refine fr_iconst (pc := 21) dX12_byteAt_21 (by decide) ?_
                  refine fr_iret (pc := 22) dX12_byteAt_22 (Or.inl rfl) ?_
                  refine fr_bipush (pc := 243) dX12_go_243 (by decide) ?_
                  refine fr_icmT (tg := 333) (pc := 245) dX12_go_245 rfl rfl ?_
                  refine fr_aload_n (pc := 333) dX12_go_333 rfl rfl ?_
                  refine fr_dup (pc := 334) dX12_go_334 pm_t2 ?_
                  refine fr_getf (a := 142) (i := 5) (v := gI M 142 5) (t := 0) (pc := 335) dX12_go_335 rfl pf_12_134 rfl s0_142 rfl (gI_nf _ _ (by decide)) ?_
                  refine fr_iconst (pc := 338) dX12_go_338 (by decide) ?_
                  refine fr_iadd (z := w32 ((gI M 142 5) + 1)) (pc := 339) dX12_go_339 rfl ?_
                  refine fr_put (a := 142) (i := 5) (pc := 340) dX12_go_340 rfl pf_12_134 rfl s0_142 rfl rfl nf_142_5 rfl ?_
                  refine fr_aload_n (pc := 343) dX12_go_343 rfl rfl ?_
                  refine fr_iload_n (pc := 344) dX12_go_344 rfl rfl ?_
                  refine fr_inSI (as := [(0, pm_iand (gI M 143 (gI M 142 5)) 255)]) (rest := [(2, 142)]) (ls' := [(0, pm_iand (gI M 143 (gI M 142 5)) 255)]) (c1 := 0) (c2 := 0) (pc := 345) dX12_go_345 pl_12_154 rfl ⟨Nat.le_of_ble_eq_true rfl, Nat.le_of_ble_eq_true rfl⟩ rfl rfl  (by omega) rfl rfl (pm_zc _) (hq sc _ (by omega)) (fun r39 M38 hq => ?_)
                  refine fr_ifc_eq (tg := 355) (pc := 348) dX12_go_348 rfl hq (fun hc40 hq => ?_) (fun hc40 hq => ?_)
                  · refine fr_iconst (pc := 355) dX12_go_355 (by decide) ?_
                    refine fr_put (a := 142) (i := 6) (pc := 356) dX12_go_356 rfl pf_12_144 rfl s0_142 rfl rfl nf_142_6 rfl ?_
                    refine fr_aload_n (pc := 359) dX12_go_359 rfl rfl ?_
                    refine fr_iload_n (pc := 360) dX12_go_360 rfl rfl ?_
                    refine fr_put (a := 142) (i := 7) (pc := 361) dX12_go_361 rfl pf_12_151 rfl s0_142 rfl rfl nf_142_7 rfl ?_
                    exact fr_vret (pc := 364) dX12_go_364 rfl hq
                  · refine fr_iconst (pc := 351) dX12_go_351 (by decide) ?_
                    refine fr_goto (tg := 356) (pc := 352) dX12_go_352 rfl ?_
                    refine fr_put (a := 142) (i := 6) (pc := 356) dX12_go_356 rfl pf_12_144 rfl s0_142 rfl rfl nf_142_6 rfl ?_
                    refine fr_aload_n (pc := 359) dX12_go_359 rfl rfl ?_
                    refine fr_iload_n (pc := 360) dX12_go_360 rfl rfl ?_
                    refine fr_put (a := 142) (i := 7) (pc := 361) dX12_go_361 rfl pf_12_151 rfl s0_142 rfl rfl nf_142_7 rfl ?_
                    exact fr_vret (pc := 364) dX12_go_364 rfl hq
          · refine fr_iload_n (pc := 5) dX12_within_5 rfl rfl ?_
            refine fr_iload_n (pc := 6) dX12_within_6 rfl rfl ?_
            refine fr_icm_gt (tg := 14) (pc := 7) dX12_within_7 rfl hq (fun hc41 hq => ?_) (fun hc41 hq => ?_)
            · refine fr_iconst (pc := 10) dX12_within_10 (by decide) ?_
              refine fr_goto (tg := 15) (pc := 11) dX12_within_11 rfl ?_
              refine fr_iret (pc := 15) dX12_within_15 (Or.inr (Or.inl ⟨rfl, Or.inr rfl⟩)) ?_
              refine fr_ifcF (tg := 118) (pc := 76) dX12_go_76 rfl rfl ?_
              exact hq sc d hd (0, pm_iand (gI M 143 (gI M 142 5)) 255) pm_t0
            · refine fr_iconst (pc := 14) dX12_within_14 (by decide) ?_
              refine fr_iret (pc := 15) dX12_within_15 (Or.inr (Or.inl ⟨rfl, Or.inl rfl⟩)) ?_
              refine fr_ifcT (tg := 118) (pc := 76) dX12_go_76 rfl rfl ?_
              refine fr_iload_n (pc := 118) dX12_go_118 rfl rfl ?_
              refine fr_bipush (pc := 119) dX12_go_119 (by decide) ?_
              refine fr_bipush (pc := 121) dX12_go_121 (by decide) ?_
              refine fr_inSI (as := [(0, pm_iand (gI M 143 (gI M 142 5)) 255), (0, 48), (0, 57)]) (rest := []) (ls' := [(0, pm_iand (gI M 143 (gI M 142 5)) 255), (0, 48), (0, 57)]) (c1 := 0) (c2 := 0) (pc := 123) dX12_go_123 pl_12_147 rfl ⟨Nat.le_of_ble_eq_true rfl, Nat.le_of_ble_eq_true rfl⟩ rfl rfl  (by omega) rfl rfl (pm_zc _) ?_ (fun y M' h => h)
              refine fr_iload_n (pc := 0) dX12_within_0 rfl rfl ?_
              refine fr_iload_n (pc := 1) dX12_within_1 rfl rfl ?_
              refine fr_icm_lt (tg := 14) (pc := 2) dX12_within_2 rfl hq (fun hc42 hq => ?_) (fun hc42 hq => ?_)
              · refine fr_iconst (pc := 14) dX12_within_14 (by decide) ?_
                refine fr_iret (pc := 15) dX12_within_15 (Or.inr (Or.inl ⟨rfl, Or.inl rfl⟩)) ?_
                refine fr_ifcT (tg := 233) (pc := 126) dX12_go_126 rfl rfl ?_
                refine fr_aload_n (pc := 233) dX12_go_233 rfl rfl ?_
                refine fr_aload_n (pc := 234) dX12_go_234 rfl rfl ?_
                refine fr_getf (a := 142) (i := 5) (v := gI M 142 5) (t := 0) (pc := 235) dX12_go_235 rfl pf_12_134 rfl s0_142 rfl (gI_nf _ _ (by decide)) ?_
                refine fr_iconst (pc := 238) dX12_go_238 (by decide) ?_
                refine fr_iadd (z := w32 ((gI M 142 5) + 1)) (pc := 239) dX12_go_239 rfl ?_
                refine fr_inVI (a := 142) (as := [(0, w32 ((gI M 142 5) + 1))]) (rest := []) (ls' := [(2, 142), (0, w32 ((gI M 142 5) + 1))]) (c1 := 0) (c2 := 0) (pc := 240) dX12_go_240 pl_12_137 rfl ⟨Nat.le_of_ble_eq_true rfl, Nat.le_of_ble_eq_true rfl⟩ rfl rfl rfl s0_142 (Nat.le_of_ble_eq_true rfl) (by omega) rfl rfl (pm_zc _) ?_ (fun y M' h => h)
                refine fr_iload_n (pc := 0) dX12_byteAt_0 rfl rfl ?_
                refine fr_aload_n (pc := 1) dX12_byteAt_1 rfl rfl ?_
                refine fr_getf (a := 142) (i := 3) (v := gI M 142 3) (t := 0) (pc := 2) dX12_byteAt_2 rfl pf_12_131 rfl s0_142 rfl (gI_nf _ _ (by decide)) ?_
                refine fr_icm_ge (tg := 21) (pc := 5) dX12_byteAt_5 rfl hq (fun hc43 hq => ?_) (fun hc43 hq => ?_)
                · refine fr_aload_n (pc := 8) dX12_byteAt_8 rfl rfl ?_
                  refine fr_getr (a := 142) (pc := 9) dX12_byteAt_9 rfl pf_12_7 s0_142 rfl rf_142_1 ?_
                  refine fr_iload_n (pc := 12) dX12_byteAt_12 rfl rfl ?_
                  obtain ⟨hb44, hq⟩ := hq
                  refine fr_baload (a := 143) (v := gI M 143 (w32 ((gI M 142 5) + 1))) (pc := 13) dX12_byteAt_13 rfl s0_143 hb44 (Or.inl rfl) (gI_ne _ _ _ _ (by decide)) ?_
                  refine fr_sipush (pc := 14) dX12_byteAt_14 (by decide) ?_
                  refine fr_iand (z := pm_iand (gI M 143 (w32 ((gI M 142 5) + 1))) 255) (pc := 17) dX12_byteAt_17 rfl ?_
                  refine fr_goto (tg := 22) (pc := 18) dX12_byteAt_18 rfl ?_
                  refine fr_iret (pc := 22) dX12_byteAt_22 (Or.inl rfl) ?_
                  refine fr_bipush (pc := 243) dX12_go_243 (by decide) ?_
                  refine fr_icm_ne (tg := 333) (pc := 245) dX12_go_245 rfl hq (fun hc45 hq => ?_) (fun hc45 hq => ?_)
                  · refine fr_iload_n (pc := 248) dX12_go_248 rfl rfl ?_
                    refine fr_bipush (pc := 249) dX12_go_249 (by decide) ?_
                    refine fr_icm_eq (tg := 272) (pc := 251) dX12_go_251 rfl hq (fun hc46 hq => ?_) (fun hc46 hq => ?_)
                    · refine fr_aload_n (pc := 272) dX12_go_272 rfl rfl ?_
                      refine fr_dup (pc := 273) dX12_go_273 pm_t2 ?_
                      refine fr_getf (a := 142) (i := 5) (v := gI M 142 5) (t := 0) (pc := 274) dX12_go_274 rfl pf_12_134 rfl s0_142 rfl (gI_nf _ _ (by decide)) ?_
                      refine fr_iconst (pc := 277) dX12_go_277 (by decide) ?_
                      refine fr_iadd (z := w32 ((gI M 142 5) + 2)) (pc := 278) dX12_go_278 rfl ?_
                      refine fr_put (a := 142) (i := 5) (pc := 279) dX12_go_279 rfl pf_12_134 rfl s0_142 rfl rfl nf_142_5 rfl ?_
                      refine fr_aload_n (pc := 282) dX12_go_282 rfl rfl ?_
                      refine fr_iconst (pc := 283) dX12_go_283 (by decide) ?_
                      refine fr_put (a := 142) (i := 6) (pc := 284) dX12_go_284 rfl pf_12_144 rfl s0_142 rfl rfl nf_142_6 rfl ?_
                      refine fr_aload_n (pc := 287) dX12_go_287 rfl rfl ?_
                      refine fr_iload_n (pc := 288) dX12_go_288 rfl rfl ?_
                      refine fr_bipush (pc := 289) dX12_go_289 (by decide) ?_
                      refine fr_icmF (tg := 300) (pc := 291) dX12_go_291 (decide_eq_false (fun z => z hc46)) rfl ?_
                      refine fr_sipush (pc := 294) dX12_go_294 (by decide) ?_
                      refine fr_goto (tg := 327) (pc := 297) dX12_go_297 rfl ?_
                      refine fr_put (a := 142) (i := 7) (pc := 327) dX12_go_327 rfl pf_12_151 rfl s0_142 rfl rfl nf_142_7 rfl ?_
                      refine fr_goto (tg := 364) (pc := 330) dX12_go_330 rfl ?_
                      exact fr_vret (pc := 364) dX12_go_364 rfl hq
                    · refine fr_iload_n (pc := 254) dX12_go_254 rfl rfl ?_
                      refine fr_bipush (pc := 255) dX12_go_255 (by decide) ?_
                      refine fr_icm_eq (tg := 272) (pc := 257) dX12_go_257 rfl hq (fun hc47 hq => ?_) (fun hc47 hq => ?_)
                      · refine fr_aload_n (pc := 272) dX12_go_272 rfl rfl ?_
                        refine fr_dup (pc := 273) dX12_go_273 pm_t2 ?_
                        refine fr_getf (a := 142) (i := 5) (v := gI M 142 5) (t := 0) (pc := 274) dX12_go_274 rfl pf_12_134 rfl s0_142 rfl (gI_nf _ _ (by decide)) ?_
                        refine fr_iconst (pc := 277) dX12_go_277 (by decide) ?_
                        refine fr_iadd (z := w32 ((gI M 142 5) + 2)) (pc := 278) dX12_go_278 rfl ?_
                        refine fr_put (a := 142) (i := 5) (pc := 279) dX12_go_279 rfl pf_12_134 rfl s0_142 rfl rfl nf_142_5 rfl ?_
                        refine fr_aload_n (pc := 282) dX12_go_282 rfl rfl ?_
                        refine fr_iconst (pc := 283) dX12_go_283 (by decide) ?_
                        refine fr_put (a := 142) (i := 6) (pc := 284) dX12_go_284 rfl pf_12_144 rfl s0_142 rfl rfl nf_142_6 rfl ?_
                        refine fr_aload_n (pc := 287) dX12_go_287 rfl rfl ?_
                        refine fr_iload_n (pc := 288) dX12_go_288 rfl rfl ?_
                        refine fr_bipush (pc := 289) dX12_go_289 (by decide) ?_
                        refine fr_icmT (tg := 300) (pc := 291) dX12_go_291 (decide_eq_true hc46) rfl ?_
                        refine fr_iload_n (pc := 300) dX12_go_300 rfl rfl ?_
                        refine fr_bipush (pc := 301) dX12_go_301 (by decide) ?_
                        refine fr_icmF (tg := 312) (pc := 303) dX12_go_303 (decide_eq_false (fun z => z hc47)) rfl ?_
                        refine fr_sipush (pc := 306) dX12_go_306 (by decide) ?_
                        refine fr_goto (tg := 327) (pc := 309) dX12_go_309 rfl ?_
                        refine fr_put (a := 142) (i := 7) (pc := 327) dX12_go_327 rfl pf_12_151 rfl s0_142 rfl rfl nf_142_7 rfl ?_
                        refine fr_goto (tg := 364) (pc := 330) dX12_go_330 rfl ?_
                        exact fr_vret (pc := 364) dX12_go_364 rfl hq
                      · refine fr_iload_n (pc := 260) dX12_go_260 rfl rfl ?_
                        refine fr_bipush (pc := 261) dX12_go_261 (by decide) ?_
                        refine fr_icm_eq (tg := 272) (pc := 263) dX12_go_263 rfl hq (fun hc48 hq => ?_) (fun hc48 hq => ?_)
                        · refine fr_aload_n (pc := 272) dX12_go_272 rfl rfl ?_
                          refine fr_dup (pc := 273) dX12_go_273 pm_t2 ?_
                          refine fr_getf (a := 142) (i := 5) (v := gI M 142 5) (t := 0) (pc := 274) dX12_go_274 rfl pf_12_134 rfl s0_142 rfl (gI_nf _ _ (by decide)) ?_
                          refine fr_iconst (pc := 277) dX12_go_277 (by decide) ?_
                          refine fr_iadd (z := w32 ((gI M 142 5) + 2)) (pc := 278) dX12_go_278 rfl ?_
                          refine fr_put (a := 142) (i := 5) (pc := 279) dX12_go_279 rfl pf_12_134 rfl s0_142 rfl rfl nf_142_5 rfl ?_
                          refine fr_aload_n (pc := 282) dX12_go_282 rfl rfl ?_
                          refine fr_iconst (pc := 283) dX12_go_283 (by decide) ?_
                          refine fr_put (a := 142) (i := 6) (pc := 284) dX12_go_284 rfl pf_12_144 rfl s0_142 rfl rfl nf_142_6 rfl ?_
                          refine fr_aload_n (pc := 287) dX12_go_287 rfl rfl ?_
                          refine fr_iload_n (pc := 288) dX12_go_288 rfl rfl ?_
                          refine fr_bipush (pc := 289) dX12_go_289 (by decide) ?_
                          refine fr_icmT (tg := 300) (pc := 291) dX12_go_291 (decide_eq_true hc46) rfl ?_
                          refine fr_iload_n (pc := 300) dX12_go_300 rfl rfl ?_
                          refine fr_bipush (pc := 301) dX12_go_301 (by decide) ?_
                          refine fr_icmT (tg := 312) (pc := 303) dX12_go_303 (decide_eq_true hc47) rfl ?_
                          refine fr_iload_n (pc := 312) dX12_go_312 rfl rfl ?_
                          refine fr_bipush (pc := 313) dX12_go_313 (by decide) ?_
                          refine fr_icmF (tg := 324) (pc := 315) dX12_go_315 (decide_eq_false (fun z => z hc48)) rfl ?_
                          refine fr_sipush (pc := 318) dX12_go_318 (by decide) ?_
                          refine fr_goto (tg := 327) (pc := 321) dX12_go_321 rfl ?_
                          refine fr_put (a := 142) (i := 7) (pc := 327) dX12_go_327 rfl pf_12_151 rfl s0_142 rfl rfl nf_142_7 rfl ?_
                          refine fr_goto (tg := 364) (pc := 330) dX12_go_330 rfl ?_
                          exact fr_vret (pc := 364) dX12_go_364 rfl hq
                        · refine fr_iload_n (pc := 266) dX12_go_266 rfl rfl ?_
                          refine fr_bipush (pc := 267) dX12_go_267 (by decide) ?_
                          refine fr_icm_ne (tg := 333) (pc := 269) dX12_go_269 rfl hq (fun hc49 hq => ?_) (fun hc49 hq => ?_)
                          · refine fr_aload_n (pc := 272) dX12_go_272 rfl rfl ?_
                            refine fr_dup (pc := 273) dX12_go_273 pm_t2 ?_
                            refine fr_getf (a := 142) (i := 5) (v := gI M 142 5) (t := 0) (pc := 274) dX12_go_274 rfl pf_12_134 rfl s0_142 rfl (gI_nf _ _ (by decide)) ?_
                            refine fr_iconst (pc := 277) dX12_go_277 (by decide) ?_
                            refine fr_iadd (z := w32 ((gI M 142 5) + 2)) (pc := 278) dX12_go_278 rfl ?_
                            refine fr_put (a := 142) (i := 5) (pc := 279) dX12_go_279 rfl pf_12_134 rfl s0_142 rfl rfl nf_142_5 rfl ?_
                            refine fr_aload_n (pc := 282) dX12_go_282 rfl rfl ?_
                            refine fr_iconst (pc := 283) dX12_go_283 (by decide) ?_
                            refine fr_put (a := 142) (i := 6) (pc := 284) dX12_go_284 rfl pf_12_144 rfl s0_142 rfl rfl nf_142_6 rfl ?_
                            refine fr_aload_n (pc := 287) dX12_go_287 rfl rfl ?_
                            refine fr_iload_n (pc := 288) dX12_go_288 rfl rfl ?_
                            refine fr_bipush (pc := 289) dX12_go_289 (by decide) ?_
                            refine fr_icmT (tg := 300) (pc := 291) dX12_go_291 (decide_eq_true hc46) rfl ?_
                            refine fr_iload_n (pc := 300) dX12_go_300 rfl rfl ?_
                            refine fr_bipush (pc := 301) dX12_go_301 (by decide) ?_
                            refine fr_icmT (tg := 312) (pc := 303) dX12_go_303 (decide_eq_true hc47) rfl ?_
                            refine fr_iload_n (pc := 312) dX12_go_312 rfl rfl ?_
                            refine fr_bipush (pc := 313) dX12_go_313 (by decide) ?_
                            refine fr_icmT (tg := 324) (pc := 315) dX12_go_315 (decide_eq_true hc48) rfl ?_
                            refine fr_sipush (pc := 324) dX12_go_324 (by decide) ?_
                            refine fr_put (a := 142) (i := 7) (pc := 327) dX12_go_327 rfl pf_12_151 rfl s0_142 rfl rfl nf_142_7 rfl ?_
                            refine fr_goto (tg := 364) (pc := 330) dX12_go_330 rfl ?_
                            exact fr_vret (pc := 364) dX12_go_364 rfl hq
                          · refine fr_aload_n (pc := 333) dX12_go_333 rfl rfl ?_
                            refine fr_dup (pc := 334) dX12_go_334 pm_t2 ?_
                            refine fr_getf (a := 142) (i := 5) (v := gI M 142 5) (t := 0) (pc := 335) dX12_go_335 rfl pf_12_134 rfl s0_142 rfl (gI_nf _ _ (by decide)) ?_
                            refine fr_iconst (pc := 338) dX12_go_338 (by decide) ?_
                            refine fr_iadd (z := w32 ((gI M 142 5) + 1)) (pc := 339) dX12_go_339 rfl ?_
                            refine fr_put (a := 142) (i := 5) (pc := 340) dX12_go_340 rfl pf_12_134 rfl s0_142 rfl rfl nf_142_5 rfl ?_
                            refine fr_aload_n (pc := 343) dX12_go_343 rfl rfl ?_
                            refine fr_iload_n (pc := 344) dX12_go_344 rfl rfl ?_
                            refine fr_inSI (as := [(0, pm_iand (gI M 143 (gI M 142 5)) 255)]) (rest := [(2, 142)]) (ls' := [(0, pm_iand (gI M 143 (gI M 142 5)) 255)]) (c1 := 0) (c2 := 0) (pc := 345) dX12_go_345 pl_12_154 rfl ⟨Nat.le_of_ble_eq_true rfl, Nat.le_of_ble_eq_true rfl⟩ rfl rfl  (by omega) rfl rfl (pm_zc _) (hq sc _ (by omega)) (fun r51 M50 hq => ?_)
                            refine fr_ifc_eq (tg := 355) (pc := 348) dX12_go_348 rfl hq (fun hc52 hq => ?_) (fun hc52 hq => ?_)
                            · refine fr_iconst (pc := 355) dX12_go_355 (by decide) ?_
                              refine fr_put (a := 142) (i := 6) (pc := 356) dX12_go_356 rfl pf_12_144 rfl s0_142 rfl rfl nf_142_6 rfl ?_
                              refine fr_aload_n (pc := 359) dX12_go_359 rfl rfl ?_
                              refine fr_iload_n (pc := 360) dX12_go_360 rfl rfl ?_
                              refine fr_put (a := 142) (i := 7) (pc := 361) dX12_go_361 rfl pf_12_151 rfl s0_142 rfl rfl nf_142_7 rfl ?_
                              exact fr_vret (pc := 364) dX12_go_364 rfl hq
                            · refine fr_iconst (pc := 351) dX12_go_351 (by decide) ?_
                              refine fr_goto (tg := 356) (pc := 352) dX12_go_352 rfl ?_
                              refine fr_put (a := 142) (i := 6) (pc := 356) dX12_go_356 rfl pf_12_144 rfl s0_142 rfl rfl nf_142_6 rfl ?_
                              refine fr_aload_n (pc := 359) dX12_go_359 rfl rfl ?_
                              refine fr_iload_n (pc := 360) dX12_go_360 rfl rfl ?_
                              refine fr_put (a := 142) (i := 7) (pc := 361) dX12_go_361 rfl pf_12_151 rfl s0_142 rfl rfl nf_142_7 rfl ?_
                              exact fr_vret (pc := 364) dX12_go_364 rfl hq
                  · refine fr_aload_n (pc := 333) dX12_go_333 rfl rfl ?_
                    refine fr_dup (pc := 334) dX12_go_334 pm_t2 ?_
                    refine fr_getf (a := 142) (i := 5) (v := gI M 142 5) (t := 0) (pc := 335) dX12_go_335 rfl pf_12_134 rfl s0_142 rfl (gI_nf _ _ (by decide)) ?_
                    refine fr_iconst (pc := 338) dX12_go_338 (by decide) ?_
                    refine fr_iadd (z := w32 ((gI M 142 5) + 1)) (pc := 339) dX12_go_339 rfl ?_
                    refine fr_put (a := 142) (i := 5) (pc := 340) dX12_go_340 rfl pf_12_134 rfl s0_142 rfl rfl nf_142_5 rfl ?_
                    refine fr_aload_n (pc := 343) dX12_go_343 rfl rfl ?_
                    refine fr_iload_n (pc := 344) dX12_go_344 rfl rfl ?_
                    refine fr_inSI (as := [(0, pm_iand (gI M 143 (gI M 142 5)) 255)]) (rest := [(2, 142)]) (ls' := [(0, pm_iand (gI M 143 (gI M 142 5)) 255)]) (c1 := 0) (c2 := 0) (pc := 345) dX12_go_345 pl_12_154 rfl ⟨Nat.le_of_ble_eq_true rfl, Nat.le_of_ble_eq_true rfl⟩ rfl rfl  (by omega) rfl rfl (pm_zc _) (hq sc _ (by omega)) (fun r54 M53 hq => ?_)
                    refine fr_ifc_eq (tg := 355) (pc := 348) dX12_go_348 rfl hq (fun hc55 hq => ?_) (fun hc55 hq => ?_)
                    · refine fr_iconst (pc := 355) dX12_go_355 (by decide) ?_
                      refine fr_put (a := 142) (i := 6) (pc := 356) dX12_go_356 rfl pf_12_144 rfl s0_142 rfl rfl nf_142_6 rfl ?_
                      refine fr_aload_n (pc := 359) dX12_go_359 rfl rfl ?_
                      refine fr_iload_n (pc := 360) dX12_go_360 rfl rfl ?_
                      refine fr_put (a := 142) (i := 7) (pc := 361) dX12_go_361 rfl pf_12_151 rfl s0_142 rfl rfl nf_142_7 rfl ?_
                      exact fr_vret (pc := 364) dX12_go_364 rfl hq
                    · refine fr_iconst (pc := 351) dX12_go_351 (by decide) ?_
                      refine fr_goto (tg := 356) (pc := 352) dX12_go_352 rfl ?_
                      refine fr_put (a := 142) (i := 6) (pc := 356) dX12_go_356 rfl pf_12_144 rfl s0_142 rfl rfl nf_142_6 rfl ?_
                      refine fr_aload_n (pc := 359) dX12_go_359 rfl rfl ?_
                      refine fr_iload_n (pc := 360) dX12_go_360 rfl rfl ?_
                      refine fr_put (a := 142) (i := 7) (pc := 361) dX12_go_361 rfl pf_12_151 rfl s0_142 rfl rfl nf_142_7 rfl ?_
                      exact fr_vret (pc := 364) dX12_go_364 rfl hq
                · refine fr_iconst (pc := 21) dX12_byteAt_21 (by decide) ?_
                  refine fr_iret (pc := 22) dX12_byteAt_22 (Or.inl rfl) ?_
                  refine fr_bipush (pc := 243) dX12_go_243 (by decide) ?_
                  refine fr_icmT (tg := 333) (pc := 245) dX12_go_245 rfl rfl ?_
                  refine fr_aload_n (pc := 333) dX12_go_333 rfl rfl ?_
                  refine fr_dup (pc := 334) dX12_go_334 pm_t2 ?_
                  refine fr_getf (a := 142) (i := 5) (v := gI M 142 5) (t := 0) (pc := 335) dX12_go_335 rfl pf_12_134 rfl s0_142 rfl (gI_nf _ _ (by decide)) ?_
                  refine fr_iconst (pc := 338) dX12_go_338 (by decide) ?_
                  refine fr_iadd (z := w32 ((gI M 142 5) + 1)) (pc := 339) dX12_go_339 rfl ?_
                  refine fr_put (a := 142) (i := 5) (pc := 340) dX12_go_340 rfl pf_12_134 rfl s0_142 rfl rfl nf_142_5 rfl ?_
                  refine fr_aload_n (pc := 343) dX12_go_343 rfl rfl ?_
                  refine fr_iload_n (pc := 344) dX12_go_344 rfl rfl ?_
                  refine fr_inSI (as := [(0, pm_iand (gI M 143 (gI M 142 5)) 255)]) (rest := [(2, 142)]) (ls' := [(0, pm_iand (gI M 143 (gI M 142 5)) 255)]) (c1 := 0) (c2 := 0) (pc := 345) dX12_go_345 pl_12_154 rfl ⟨Nat.le_of_ble_eq_true rfl, Nat.le_of_ble_eq_true rfl⟩ rfl rfl  (by omega) rfl rfl (pm_zc _) (hq sc _ (by omega)) (fun r57 M56 hq => ?_)
                  refine fr_ifc_eq (tg := 355) (pc := 348) dX12_go_348 rfl hq (fun hc58 hq => ?_) (fun hc58 hq => ?_)
                  · refine fr_iconst (pc := 355) dX12_go_355 (by decide) ?_
                    refine fr_put (a := 142) (i := 6) (pc := 356) dX12_go_356 rfl pf_12_144 rfl s0_142 rfl rfl nf_142_6 rfl ?_
                    refine fr_aload_n (pc := 359) dX12_go_359 rfl rfl ?_
                    refine fr_iload_n (pc := 360) dX12_go_360 rfl rfl ?_
                    refine fr_put (a := 142) (i := 7) (pc := 361) dX12_go_361 rfl pf_12_151 rfl s0_142 rfl rfl nf_142_7 rfl ?_
                    exact fr_vret (pc := 364) dX12_go_364 rfl hq
                  · refine fr_iconst (pc := 351) dX12_go_351 (by decide) ?_
                    refine fr_goto (tg := 356) (pc := 352) dX12_go_352 rfl ?_
                    refine fr_put (a := 142) (i := 6) (pc := 356) dX12_go_356 rfl pf_12_144 rfl s0_142 rfl rfl nf_142_6 rfl ?_
                    refine fr_aload_n (pc := 359) dX12_go_359 rfl rfl ?_
                    refine fr_iload_n (pc := 360) dX12_go_360 rfl rfl ?_
                    refine fr_put (a := 142) (i := 7) (pc := 361) dX12_go_361 rfl pf_12_151 rfl s0_142 rfl rfl nf_142_7 rfl ?_
                    exact fr_vret (pc := 364) dX12_go_364 rfl hq
              · refine fr_iload_n (pc := 5) dX12_within_5 rfl rfl ?_
                refine fr_iload_n (pc := 6) dX12_within_6 rfl rfl ?_
                refine fr_icm_gt (tg := 14) (pc := 7) dX12_within_7 rfl hq (fun hc59 hq => ?_) (fun hc59 hq => ?_)
                · refine fr_iconst (pc := 10) dX12_within_10 (by decide) ?_
                  refine fr_goto (tg := 15) (pc := 11) dX12_within_11 rfl ?_
                  refine fr_iret (pc := 15) dX12_within_15 (Or.inr (Or.inl ⟨rfl, Or.inr rfl⟩)) ?_
                  refine fr_ifcF (tg := 233) (pc := 126) dX12_go_126 rfl rfl ?_
                  refine fr_aload_n (pc := 129) dX12_go_129 rfl rfl ?_
                  refine fr_iconst (pc := 130) dX12_go_130 (by decide) ?_
                  refine fr_put (a := 142) (i := 7) (pc := 131) dX12_go_131 rfl pf_12_151 rfl s0_142 rfl rfl nf_142_7 rfl ?_
                  exact hq sc d hd (0, pm_iand (gI M 143 (gI M 142 5)) 255) pm_t0
                · refine fr_iconst (pc := 14) dX12_within_14 (by decide) ?_
                  refine fr_iret (pc := 15) dX12_within_15 (Or.inr (Or.inl ⟨rfl, Or.inl rfl⟩)) ?_
                  refine fr_ifcT (tg := 233) (pc := 126) dX12_go_126 rfl rfl ?_
                  refine fr_aload_n (pc := 233) dX12_go_233 rfl rfl ?_
                  refine fr_aload_n (pc := 234) dX12_go_234 rfl rfl ?_
                  refine fr_getf (a := 142) (i := 5) (v := gI M 142 5) (t := 0) (pc := 235) dX12_go_235 rfl pf_12_134 rfl s0_142 rfl (gI_nf _ _ (by decide)) ?_
                  refine fr_iconst (pc := 238) dX12_go_238 (by decide) ?_
                  refine fr_iadd (z := w32 ((gI M 142 5) + 1)) (pc := 239) dX12_go_239 rfl ?_
                  refine fr_inVI (a := 142) (as := [(0, w32 ((gI M 142 5) + 1))]) (rest := []) (ls' := [(2, 142), (0, w32 ((gI M 142 5) + 1))]) (c1 := 0) (c2 := 0) (pc := 240) dX12_go_240 pl_12_137 rfl ⟨Nat.le_of_ble_eq_true rfl, Nat.le_of_ble_eq_true rfl⟩ rfl rfl rfl s0_142 (Nat.le_of_ble_eq_true rfl) (by omega) rfl rfl (pm_zc _) ?_ (fun y M' h => h)
                  refine fr_iload_n (pc := 0) dX12_byteAt_0 rfl rfl ?_
                  refine fr_aload_n (pc := 1) dX12_byteAt_1 rfl rfl ?_
                  refine fr_getf (a := 142) (i := 3) (v := gI M 142 3) (t := 0) (pc := 2) dX12_byteAt_2 rfl pf_12_131 rfl s0_142 rfl (gI_nf _ _ (by decide)) ?_
                  refine fr_icm_ge (tg := 21) (pc := 5) dX12_byteAt_5 rfl hq (fun hc60 hq => ?_) (fun hc60 hq => ?_)
                  · refine fr_aload_n (pc := 8) dX12_byteAt_8 rfl rfl ?_
                    refine fr_getr (a := 142) (pc := 9) dX12_byteAt_9 rfl pf_12_7 s0_142 rfl rf_142_1 ?_
                    refine fr_iload_n (pc := 12) dX12_byteAt_12 rfl rfl ?_
                    obtain ⟨hb61, hq⟩ := hq
                    refine fr_baload (a := 143) (v := gI M 143 (w32 ((gI M 142 5) + 1))) (pc := 13) dX12_byteAt_13 rfl s0_143 hb61 (Or.inl rfl) (gI_ne _ _ _ _ (by decide)) ?_
                    refine fr_sipush (pc := 14) dX12_byteAt_14 (by decide) ?_
                    refine fr_iand (z := pm_iand (gI M 143 (w32 ((gI M 142 5) + 1))) 255) (pc := 17) dX12_byteAt_17 rfl ?_
                    refine fr_goto (tg := 22) (pc := 18) dX12_byteAt_18 rfl ?_
                    refine fr_iret (pc := 22) dX12_byteAt_22 (Or.inl rfl) ?_
                    refine fr_bipush (pc := 243) dX12_go_243 (by decide) ?_
                    refine fr_icm_ne (tg := 333) (pc := 245) dX12_go_245 rfl hq (fun hc62 hq => ?_) (fun hc62 hq => ?_)
                    · refine fr_iload_n (pc := 248) dX12_go_248 rfl rfl ?_
                      refine fr_bipush (pc := 249) dX12_go_249 (by decide) ?_
                      refine fr_icm_eq (tg := 272) (pc := 251) dX12_go_251 rfl hq (fun hc63 hq => ?_) (fun hc63 hq => ?_)
                      · refine fr_aload_n (pc := 272) dX12_go_272 rfl rfl ?_
                        refine fr_dup (pc := 273) dX12_go_273 pm_t2 ?_
                        refine fr_getf (a := 142) (i := 5) (v := gI M 142 5) (t := 0) (pc := 274) dX12_go_274 rfl pf_12_134 rfl s0_142 rfl (gI_nf _ _ (by decide)) ?_
                        refine fr_iconst (pc := 277) dX12_go_277 (by decide) ?_
                        refine fr_iadd (z := w32 ((gI M 142 5) + 2)) (pc := 278) dX12_go_278 rfl ?_
                        refine fr_put (a := 142) (i := 5) (pc := 279) dX12_go_279 rfl pf_12_134 rfl s0_142 rfl rfl nf_142_5 rfl ?_
                        refine fr_aload_n (pc := 282) dX12_go_282 rfl rfl ?_
                        refine fr_iconst (pc := 283) dX12_go_283 (by decide) ?_
                        refine fr_put (a := 142) (i := 6) (pc := 284) dX12_go_284 rfl pf_12_144 rfl s0_142 rfl rfl nf_142_6 rfl ?_
                        refine fr_aload_n (pc := 287) dX12_go_287 rfl rfl ?_
                        refine fr_iload_n (pc := 288) dX12_go_288 rfl rfl ?_
                        refine fr_bipush (pc := 289) dX12_go_289 (by decide) ?_
                        refine fr_icmF (tg := 300) (pc := 291) dX12_go_291 (decide_eq_false (fun z => z hc63)) rfl ?_
                        refine fr_sipush (pc := 294) dX12_go_294 (by decide) ?_
                        refine fr_goto (tg := 327) (pc := 297) dX12_go_297 rfl ?_
                        refine fr_put (a := 142) (i := 7) (pc := 327) dX12_go_327 rfl pf_12_151 rfl s0_142 rfl rfl nf_142_7 rfl ?_
                        refine fr_goto (tg := 364) (pc := 330) dX12_go_330 rfl ?_
                        exact fr_vret (pc := 364) dX12_go_364 rfl hq
                      · refine fr_iload_n (pc := 254) dX12_go_254 rfl rfl ?_
                        refine fr_bipush (pc := 255) dX12_go_255 (by decide) ?_
                        refine fr_icm_eq (tg := 272) (pc := 257) dX12_go_257 rfl hq (fun hc64 hq => ?_) (fun hc64 hq => ?_)
                        · refine fr_aload_n (pc := 272) dX12_go_272 rfl rfl ?_
                          refine fr_dup (pc := 273) dX12_go_273 pm_t2 ?_
                          refine fr_getf (a := 142) (i := 5) (v := gI M 142 5) (t := 0) (pc := 274) dX12_go_274 rfl pf_12_134 rfl s0_142 rfl (gI_nf _ _ (by decide)) ?_
                          refine fr_iconst (pc := 277) dX12_go_277 (by decide) ?_
                          refine fr_iadd (z := w32 ((gI M 142 5) + 2)) (pc := 278) dX12_go_278 rfl ?_
                          refine fr_put (a := 142) (i := 5) (pc := 279) dX12_go_279 rfl pf_12_134 rfl s0_142 rfl rfl nf_142_5 rfl ?_
                          refine fr_aload_n (pc := 282) dX12_go_282 rfl rfl ?_
                          refine fr_iconst (pc := 283) dX12_go_283 (by decide) ?_
                          refine fr_put (a := 142) (i := 6) (pc := 284) dX12_go_284 rfl pf_12_144 rfl s0_142 rfl rfl nf_142_6 rfl ?_
                          refine fr_aload_n (pc := 287) dX12_go_287 rfl rfl ?_
                          refine fr_iload_n (pc := 288) dX12_go_288 rfl rfl ?_
                          refine fr_bipush (pc := 289) dX12_go_289 (by decide) ?_
                          refine fr_icmT (tg := 300) (pc := 291) dX12_go_291 (decide_eq_true hc63) rfl ?_
                          refine fr_iload_n (pc := 300) dX12_go_300 rfl rfl ?_
                          refine fr_bipush (pc := 301) dX12_go_301 (by decide) ?_
                          refine fr_icmF (tg := 312) (pc := 303) dX12_go_303 (decide_eq_false (fun z => z hc64)) rfl ?_
                          refine fr_sipush (pc := 306) dX12_go_306 (by decide) ?_
                          refine fr_goto (tg := 327) (pc := 309) dX12_go_309 rfl ?_
                          refine fr_put (a := 142) (i := 7) (pc := 327) dX12_go_327 rfl pf_12_151 rfl s0_142 rfl rfl nf_142_7 rfl ?_
                          refine fr_goto (tg := 364) (pc := 330) dX12_go_330 rfl ?_
                          exact fr_vret (pc := 364) dX12_go_364 rfl hq
                        · refine fr_iload_n (pc := 260) dX12_go_260 rfl rfl ?_
                          refine fr_bipush (pc := 261) dX12_go_261 (by decide) ?_
                          refine fr_icm_eq (tg := 272) (pc := 263) dX12_go_263 rfl hq (fun hc65 hq => ?_) (fun hc65 hq => ?_)
                          · refine fr_aload_n (pc := 272) dX12_go_272 rfl rfl ?_
                            refine fr_dup (pc := 273) dX12_go_273 pm_t2 ?_
                            refine fr_getf (a := 142) (i := 5) (v := gI M 142 5) (t := 0) (pc := 274) dX12_go_274 rfl pf_12_134 rfl s0_142 rfl (gI_nf _ _ (by decide)) ?_
                            refine fr_iconst (pc := 277) dX12_go_277 (by decide) ?_
                            refine fr_iadd (z := w32 ((gI M 142 5) + 2)) (pc := 278) dX12_go_278 rfl ?_
                            refine fr_put (a := 142) (i := 5) (pc := 279) dX12_go_279 rfl pf_12_134 rfl s0_142 rfl rfl nf_142_5 rfl ?_
                            refine fr_aload_n (pc := 282) dX12_go_282 rfl rfl ?_
                            refine fr_iconst (pc := 283) dX12_go_283 (by decide) ?_
                            refine fr_put (a := 142) (i := 6) (pc := 284) dX12_go_284 rfl pf_12_144 rfl s0_142 rfl rfl nf_142_6 rfl ?_
                            refine fr_aload_n (pc := 287) dX12_go_287 rfl rfl ?_
                            refine fr_iload_n (pc := 288) dX12_go_288 rfl rfl ?_
                            refine fr_bipush (pc := 289) dX12_go_289 (by decide) ?_
                            refine fr_icmT (tg := 300) (pc := 291) dX12_go_291 (decide_eq_true hc63) rfl ?_
                            refine fr_iload_n (pc := 300) dX12_go_300 rfl rfl ?_
                            refine fr_bipush (pc := 301) dX12_go_301 (by decide) ?_
                            refine fr_icmT (tg := 312) (pc := 303) dX12_go_303 (decide_eq_true hc64) rfl ?_
                            refine fr_iload_n (pc := 312) dX12_go_312 rfl rfl ?_
                            refine fr_bipush (pc := 313) dX12_go_313 (by decide) ?_
                            refine fr_icmF (tg := 324) (pc := 315) dX12_go_315 (decide_eq_false (fun z => z hc65)) rfl ?_
                            refine fr_sipush (pc := 318) dX12_go_318 (by decide) ?_
                            refine fr_goto (tg := 327) (pc := 321) dX12_go_321 rfl ?_
                            refine fr_put (a := 142) (i := 7) (pc := 327) dX12_go_327 rfl pf_12_151 rfl s0_142 rfl rfl nf_142_7 rfl ?_
                            refine fr_goto (tg := 364) (pc := 330) dX12_go_330 rfl ?_
                            exact fr_vret (pc := 364) dX12_go_364 rfl hq
                          · refine fr_iload_n (pc := 266) dX12_go_266 rfl rfl ?_
                            refine fr_bipush (pc := 267) dX12_go_267 (by decide) ?_
                            refine fr_icm_ne (tg := 333) (pc := 269) dX12_go_269 rfl hq (fun hc66 hq => ?_) (fun hc66 hq => ?_)
                            · refine fr_aload_n (pc := 272) dX12_go_272 rfl rfl ?_
                              refine fr_dup (pc := 273) dX12_go_273 pm_t2 ?_
                              refine fr_getf (a := 142) (i := 5) (v := gI M 142 5) (t := 0) (pc := 274) dX12_go_274 rfl pf_12_134 rfl s0_142 rfl (gI_nf _ _ (by decide)) ?_
                              refine fr_iconst (pc := 277) dX12_go_277 (by decide) ?_
                              refine fr_iadd (z := w32 ((gI M 142 5) + 2)) (pc := 278) dX12_go_278 rfl ?_
                              refine fr_put (a := 142) (i := 5) (pc := 279) dX12_go_279 rfl pf_12_134 rfl s0_142 rfl rfl nf_142_5 rfl ?_
                              refine fr_aload_n (pc := 282) dX12_go_282 rfl rfl ?_
                              refine fr_iconst (pc := 283) dX12_go_283 (by decide) ?_
                              refine fr_put (a := 142) (i := 6) (pc := 284) dX12_go_284 rfl pf_12_144 rfl s0_142 rfl rfl nf_142_6 rfl ?_
                              refine fr_aload_n (pc := 287) dX12_go_287 rfl rfl ?_
                              refine fr_iload_n (pc := 288) dX12_go_288 rfl rfl ?_
                              refine fr_bipush (pc := 289) dX12_go_289 (by decide) ?_
                              refine fr_icmT (tg := 300) (pc := 291) dX12_go_291 (decide_eq_true hc63) rfl ?_
                              refine fr_iload_n (pc := 300) dX12_go_300 rfl rfl ?_
                              refine fr_bipush (pc := 301) dX12_go_301 (by decide) ?_
                              refine fr_icmT (tg := 312) (pc := 303) dX12_go_303 (decide_eq_true hc64) rfl ?_
                              refine fr_iload_n (pc := 312) dX12_go_312 rfl rfl ?_
                              refine fr_bipush (pc := 313) dX12_go_313 (by decide) ?_
                              refine fr_icmT (tg := 324) (pc := 315) dX12_go_315 (decide_eq_true hc65) rfl ?_
                              refine fr_sipush (pc := 324) dX12_go_324 (by decide) ?_
                              refine fr_put (a := 142) (i := 7) (pc := 327) dX12_go_327 rfl pf_12_151 rfl s0_142 rfl rfl nf_142_7 rfl ?_
                              refine fr_goto (tg := 364) (pc := 330) dX12_go_330 rfl ?_
                              exact fr_vret (pc := 364) dX12_go_364 rfl hq
                            · refine fr_aload_n (pc := 333) dX12_go_333 rfl rfl ?_
                              refine fr_dup (pc := 334) dX12_go_334 pm_t2 ?_
                              refine fr_getf (a := 142) (i := 5) (v := gI M 142 5) (t := 0) (pc := 335) dX12_go_335 rfl pf_12_134 rfl s0_142 rfl (gI_nf _ _ (by decide)) ?_
                              refine fr_iconst (pc := 338) dX12_go_338 (by decide) ?_
                              refine fr_iadd (z := w32 ((gI M 142 5) + 1)) (pc := 339) dX12_go_339 rfl ?_
                              refine fr_put (a := 142) (i := 5) (pc := 340) dX12_go_340 rfl pf_12_134 rfl s0_142 rfl rfl nf_142_5 rfl ?_
                              refine fr_aload_n (pc := 343) dX12_go_343 rfl rfl ?_
                              refine fr_iload_n (pc := 344) dX12_go_344 rfl rfl ?_
                              refine fr_inSI (as := [(0, pm_iand (gI M 143 (gI M 142 5)) 255)]) (rest := [(2, 142)]) (ls' := [(0, pm_iand (gI M 143 (gI M 142 5)) 255)]) (c1 := 0) (c2 := 0) (pc := 345) dX12_go_345 pl_12_154 rfl ⟨Nat.le_of_ble_eq_true rfl, Nat.le_of_ble_eq_true rfl⟩ rfl rfl  (by omega) rfl rfl (pm_zc _) (hq sc _ (by omega)) (fun r68 M67 hq => ?_)
                              refine fr_ifc_eq (tg := 355) (pc := 348) dX12_go_348 rfl hq (fun hc69 hq => ?_) (fun hc69 hq => ?_)
                              · refine fr_iconst (pc := 355) dX12_go_355 (by decide) ?_
                                refine fr_put (a := 142) (i := 6) (pc := 356) dX12_go_356 rfl pf_12_144 rfl s0_142 rfl rfl nf_142_6 rfl ?_
                                refine fr_aload_n (pc := 359) dX12_go_359 rfl rfl ?_
                                refine fr_iload_n (pc := 360) dX12_go_360 rfl rfl ?_
                                refine fr_put (a := 142) (i := 7) (pc := 361) dX12_go_361 rfl pf_12_151 rfl s0_142 rfl rfl nf_142_7 rfl ?_
                                exact fr_vret (pc := 364) dX12_go_364 rfl hq
                              · refine fr_iconst (pc := 351) dX12_go_351 (by decide) ?_
                                refine fr_goto (tg := 356) (pc := 352) dX12_go_352 rfl ?_
                                refine fr_put (a := 142) (i := 6) (pc := 356) dX12_go_356 rfl pf_12_144 rfl s0_142 rfl rfl nf_142_6 rfl ?_
                                refine fr_aload_n (pc := 359) dX12_go_359 rfl rfl ?_
                                refine fr_iload_n (pc := 360) dX12_go_360 rfl rfl ?_
                                refine fr_put (a := 142) (i := 7) (pc := 361) dX12_go_361 rfl pf_12_151 rfl s0_142 rfl rfl nf_142_7 rfl ?_
                                exact fr_vret (pc := 364) dX12_go_364 rfl hq
                    · refine fr_aload_n (pc := 333) dX12_go_333 rfl rfl ?_
                      refine fr_dup (pc := 334) dX12_go_334 pm_t2 ?_
                      refine fr_getf (a := 142) (i := 5) (v := gI M 142 5) (t := 0) (pc := 335) dX12_go_335 rfl pf_12_134 rfl s0_142 rfl (gI_nf _ _ (by decide)) ?_
                      refine fr_iconst (pc := 338) dX12_go_338 (by decide) ?_
                      refine fr_iadd (z := w32 ((gI M 142 5) + 1)) (pc := 339) dX12_go_339 rfl ?_
                      refine fr_put (a := 142) (i := 5) (pc := 340) dX12_go_340 rfl pf_12_134 rfl s0_142 rfl rfl nf_142_5 rfl ?_
                      refine fr_aload_n (pc := 343) dX12_go_343 rfl rfl ?_
                      refine fr_iload_n (pc := 344) dX12_go_344 rfl rfl ?_
                      refine fr_inSI (as := [(0, pm_iand (gI M 143 (gI M 142 5)) 255)]) (rest := [(2, 142)]) (ls' := [(0, pm_iand (gI M 143 (gI M 142 5)) 255)]) (c1 := 0) (c2 := 0) (pc := 345) dX12_go_345 pl_12_154 rfl ⟨Nat.le_of_ble_eq_true rfl, Nat.le_of_ble_eq_true rfl⟩ rfl rfl  (by omega) rfl rfl (pm_zc _) (hq sc _ (by omega)) (fun r71 M70 hq => ?_)
                      refine fr_ifc_eq (tg := 355) (pc := 348) dX12_go_348 rfl hq (fun hc72 hq => ?_) (fun hc72 hq => ?_)
                      · refine fr_iconst (pc := 355) dX12_go_355 (by decide) ?_
                        refine fr_put (a := 142) (i := 6) (pc := 356) dX12_go_356 rfl pf_12_144 rfl s0_142 rfl rfl nf_142_6 rfl ?_
                        refine fr_aload_n (pc := 359) dX12_go_359 rfl rfl ?_
                        refine fr_iload_n (pc := 360) dX12_go_360 rfl rfl ?_
                        refine fr_put (a := 142) (i := 7) (pc := 361) dX12_go_361 rfl pf_12_151 rfl s0_142 rfl rfl nf_142_7 rfl ?_
                        exact fr_vret (pc := 364) dX12_go_364 rfl hq
                      · refine fr_iconst (pc := 351) dX12_go_351 (by decide) ?_
                        refine fr_goto (tg := 356) (pc := 352) dX12_go_352 rfl ?_
                        refine fr_put (a := 142) (i := 6) (pc := 356) dX12_go_356 rfl pf_12_144 rfl s0_142 rfl rfl nf_142_6 rfl ?_
                        refine fr_aload_n (pc := 359) dX12_go_359 rfl rfl ?_
                        refine fr_iload_n (pc := 360) dX12_go_360 rfl rfl ?_
                        refine fr_put (a := 142) (i := 7) (pc := 361) dX12_go_361 rfl pf_12_151 rfl s0_142 rfl rfl nf_142_7 rfl ?_
                        exact fr_vret (pc := 364) dX12_go_364 rfl hq
                  · refine fr_iconst (pc := 21) dX12_byteAt_21 (by decide) ?_
                    refine fr_iret (pc := 22) dX12_byteAt_22 (Or.inl rfl) ?_
                    refine fr_bipush (pc := 243) dX12_go_243 (by decide) ?_
                    refine fr_icmT (tg := 333) (pc := 245) dX12_go_245 rfl rfl ?_
                    refine fr_aload_n (pc := 333) dX12_go_333 rfl rfl ?_
                    refine fr_dup (pc := 334) dX12_go_334 pm_t2 ?_
                    refine fr_getf (a := 142) (i := 5) (v := gI M 142 5) (t := 0) (pc := 335) dX12_go_335 rfl pf_12_134 rfl s0_142 rfl (gI_nf _ _ (by decide)) ?_
                    refine fr_iconst (pc := 338) dX12_go_338 (by decide) ?_
                    refine fr_iadd (z := w32 ((gI M 142 5) + 1)) (pc := 339) dX12_go_339 rfl ?_
                    refine fr_put (a := 142) (i := 5) (pc := 340) dX12_go_340 rfl pf_12_134 rfl s0_142 rfl rfl nf_142_5 rfl ?_
                    refine fr_aload_n (pc := 343) dX12_go_343 rfl rfl ?_
                    refine fr_iload_n (pc := 344) dX12_go_344 rfl rfl ?_
                    refine fr_inSI (as := [(0, pm_iand (gI M 143 (gI M 142 5)) 255)]) (rest := [(2, 142)]) (ls' := [(0, pm_iand (gI M 143 (gI M 142 5)) 255)]) (c1 := 0) (c2 := 0) (pc := 345) dX12_go_345 pl_12_154 rfl ⟨Nat.le_of_ble_eq_true rfl, Nat.le_of_ble_eq_true rfl⟩ rfl rfl  (by omega) rfl rfl (pm_zc _) (hq sc _ (by omega)) (fun r74 M73 hq => ?_)
                    refine fr_ifc_eq (tg := 355) (pc := 348) dX12_go_348 rfl hq (fun hc75 hq => ?_) (fun hc75 hq => ?_)
                    · refine fr_iconst (pc := 355) dX12_go_355 (by decide) ?_
                      refine fr_put (a := 142) (i := 6) (pc := 356) dX12_go_356 rfl pf_12_144 rfl s0_142 rfl rfl nf_142_6 rfl ?_
                      refine fr_aload_n (pc := 359) dX12_go_359 rfl rfl ?_
                      refine fr_iload_n (pc := 360) dX12_go_360 rfl rfl ?_
                      refine fr_put (a := 142) (i := 7) (pc := 361) dX12_go_361 rfl pf_12_151 rfl s0_142 rfl rfl nf_142_7 rfl ?_
                      exact fr_vret (pc := 364) dX12_go_364 rfl hq
                    · refine fr_iconst (pc := 351) dX12_go_351 (by decide) ?_
                      refine fr_goto (tg := 356) (pc := 352) dX12_go_352 rfl ?_
                      refine fr_put (a := 142) (i := 6) (pc := 356) dX12_go_356 rfl pf_12_144 rfl s0_142 rfl rfl nf_142_6 rfl ?_
                      refine fr_aload_n (pc := 359) dX12_go_359 rfl rfl ?_
                      refine fr_iload_n (pc := 360) dX12_go_360 rfl rfl ?_
                      refine fr_put (a := 142) (i := 7) (pc := 361) dX12_go_361 rfl pf_12_151 rfl s0_142 rfl rfl nf_142_7 rfl ?_
                      exact fr_vret (pc := 364) dX12_go_364 rfl hq
  · refine fr_iconst (pc := 21) dX12_byteAt_21 (by decide) ?_
    refine fr_iret (pc := 22) dX12_byteAt_22 (Or.inl rfl) ?_
    refine fr_bipush (pc := 8) dX12_go_8 (by decide) ?_
    refine fr_icmF (tg := 26) (pc := 10) dX12_go_10 rfl rfl ?_
    refine fr_aload_n (pc := 13) dX12_go_13 rfl rfl ?_
    refine fr_aload_n (pc := 14) dX12_go_14 rfl rfl ?_
    refine fr_getf (a := 142) (i := 5) (v := gI M 142 5) (t := 0) (pc := 15) dX12_go_15 rfl pf_12_134 rfl s0_142 rfl rfl ?_
    refine fr_inVI (a := 142) (as := [(0, gI M 142 5)]) (rest := []) (ls' := [(2, 142), (0, gI M 142 5)]) (c1 := 0) (c2 := 0) (pc := 18) dX12_go_18 pl_12_137 rfl ⟨Nat.le_of_ble_eq_true rfl, Nat.le_of_ble_eq_true rfl⟩ rfl rfl rfl s0_142 (Nat.le_of_ble_eq_true rfl) (by omega) rfl rfl (pm_zc _) ?_ (fun y M' h => h)
    refine fr_iload_n (pc := 0) dX12_byteAt_0 rfl rfl ?_
    refine fr_aload_n (pc := 1) dX12_byteAt_1 rfl rfl ?_
    refine fr_getf (a := 142) (i := 3) (v := gI M 142 3) (t := 0) (pc := 2) dX12_byteAt_2 rfl pf_12_131 rfl s0_142 rfl rfl ?_
    refine fr_icmT (tg := 21) (pc := 5) dX12_byteAt_5 (decide_eq_true (by omega)) rfl ?_
    refine fr_iconst (pc := 21) dX12_byteAt_21 (by decide) ?_
    refine fr_iret (pc := 22) dX12_byteAt_22 (Or.inl rfl) ?_
    refine fr_bipush (pc := 21) dX12_go_21 (by decide) ?_
    refine fr_icmT (tg := 39) (pc := 23) dX12_go_23 rfl rfl ?_
    refine fr_aload_n (pc := 39) dX12_go_39 rfl rfl ?_
    refine fr_aload_n (pc := 40) dX12_go_40 rfl rfl ?_
    refine fr_getf (a := 142) (i := 5) (v := gI M 142 5) (t := 0) (pc := 41) dX12_go_41 rfl pf_12_134 rfl s0_142 rfl rfl ?_
    refine fr_put (a := 142) (i := 4) (pc := 44) dX12_go_44 rfl pf_12_141 rfl s0_142 rfl rfl nf_142_4 rfl ?_
    refine fr_aload_n (pc := 47) dX12_go_47 rfl rfl ?_
    refine fr_aload_n (pc := 48) dX12_go_48 rfl rfl ?_
    refine fr_getf (a := 142) (i := 5) (v := gI M 142 5) (t := 0) (pc := 49) dX12_go_49 rfl pf_12_134 rfl s0_142 rfl (gI_nf _ _ (by decide)) ?_
    refine fr_inVI (a := 142) (as := [(0, gI M 142 5)]) (rest := []) (ls' := [(2, 142), (0, gI M 142 5)]) (c1 := 0) (c2 := 0) (pc := 52) dX12_go_52 pl_12_137 rfl ⟨Nat.le_of_ble_eq_true rfl, Nat.le_of_ble_eq_true rfl⟩ rfl rfl rfl s0_142 (Nat.le_of_ble_eq_true rfl) (by omega) rfl rfl (pm_zc _) ?_ (fun y M' h => h)
    refine fr_iload_n (pc := 0) dX12_byteAt_0 rfl rfl ?_
    refine fr_aload_n (pc := 1) dX12_byteAt_1 rfl rfl ?_
    refine fr_getf (a := 142) (i := 3) (v := gI M 142 3) (t := 0) (pc := 2) dX12_byteAt_2 rfl pf_12_131 rfl s0_142 rfl (gI_nf _ _ (by decide)) ?_
    refine fr_icmT (tg := 21) (pc := 5) dX12_byteAt_5 (decide_eq_true (by omega)) rfl ?_
    refine fr_iconst (pc := 21) dX12_byteAt_21 (by decide) ?_
    refine fr_iret (pc := 22) dX12_byteAt_22 (Or.inl rfl) ?_
    refine fr_istore_n (ls2 := [(2, 142), (0, (-1))]) (pc := 55) dX12_go_55 rfl (Nat.le_of_ble_eq_true rfl) rfl ?_
    refine fr_iload_n (pc := 56) dX12_go_56 rfl rfl ?_
    refine fr_ifcF (tg := 68) (pc := 57) dX12_go_57 rfl rfl ?_
    refine fr_aload_n (pc := 60) dX12_go_60 rfl rfl ?_
    refine fr_iconst (pc := 61) dX12_go_61 (by decide) ?_
    refine fr_put (a := 142) (i := 6) (pc := 62) dX12_go_62 rfl pf_12_144 rfl s0_142 rfl rfl nf_142_6 rfl ?_
    refine fr_goto (tg := 364) (pc := 65) dX12_go_65 rfl ?_
    exact fr_vret (pc := 364) dX12_go_364 rfl hq
theorem k12_go_134_r {M : pm_M} {K : pm_M → Prop} (hq : (if gI M 142 5 < gI M 142 3 then ((0 ≤ gI M 142 5 ∧ gI M 142 5 < 600) ∧ (if pm_iand (gI M 143 (gI M 142 5)) 255 < 48 then (if w32 ((gI M 142 5) - (gI M 142 4)) < 4 then K (upI M 142 6 2) else K (upI M 142 6 4)) else (if pm_iand (gI M 143 (gI M 142 5)) 255 ≤ 57 then (if w32 ((gI M 142 5) - (gI M 142 4)) < 3 then k12_go_134 (upI (upI M 142 7 (w32 ((w32 ((w32 (10 * (gI M 142 7))) + (pm_iand (gI M 143 (gI M 142 5)) 255))) - 48))) 142 5 (w32 ((gI M 142 5) + 1))) K else k12_go_134 (upI (upI M 142 7 (gI M 142 7)) 142 5 (w32 ((gI M 142 5) + 1))) K) else (if w32 ((gI M 142 5) - (gI M 142 4)) < 4 then K (upI M 142 6 2) else K (upI M 142 6 4))))) else (if w32 ((gI M 142 5) - (gI M 142 4)) < 4 then K (upI M 142 6 2) else K (upI M 142 6 4)))) : k12_go_134 M K := by
  intro sc d hd z1 hz1
  refine fr_aload_n (pc := 134) dX12_go_134 rfl rfl ?_
  refine fr_aload_n (pc := 135) dX12_go_135 rfl rfl ?_
  refine fr_getf (a := 142) (i := 5) (v := gI M 142 5) (t := 0) (pc := 136) dX12_go_136 rfl pf_12_134 rfl s0_142 rfl rfl ?_
  refine fr_inVI (a := 142) (as := [(0, gI M 142 5)]) (rest := []) (ls' := [(2, 142), (0, gI M 142 5)]) (c1 := 0) (c2 := 0) (pc := 139) dX12_go_139 pl_12_137 rfl ⟨Nat.le_of_ble_eq_true rfl, Nat.le_of_ble_eq_true rfl⟩ rfl rfl rfl s0_142 (Nat.le_of_ble_eq_true rfl) (by omega) rfl rfl (pm_zc _) ?_ (fun y M' h => h)
  refine fr_iload_n (pc := 0) dX12_byteAt_0 rfl rfl ?_
  refine fr_aload_n (pc := 1) dX12_byteAt_1 rfl rfl ?_
  refine fr_getf (a := 142) (i := 3) (v := gI M 142 3) (t := 0) (pc := 2) dX12_byteAt_2 rfl pf_12_131 rfl s0_142 rfl rfl ?_
  refine fr_icm_ge (tg := 21) (pc := 5) dX12_byteAt_5 rfl hq (fun hc1 hq => ?_) (fun hc1 hq => ?_)
  · refine fr_aload_n (pc := 8) dX12_byteAt_8 rfl rfl ?_
    refine fr_getr (a := 142) (pc := 9) dX12_byteAt_9 rfl pf_12_7 s0_142 rfl rf_142_1 ?_
    refine fr_iload_n (pc := 12) dX12_byteAt_12 rfl rfl ?_
    obtain ⟨hb2, hq⟩ := hq
    refine fr_baload (a := 143) (v := gI M 143 (gI M 142 5)) (pc := 13) dX12_byteAt_13 rfl s0_143 hb2 (Or.inl rfl) rfl ?_
    refine fr_sipush (pc := 14) dX12_byteAt_14 (by decide) ?_
    refine fr_iand (z := pm_iand (gI M 143 (gI M 142 5)) 255) (pc := 17) dX12_byteAt_17 rfl ?_
    refine fr_goto (tg := 22) (pc := 18) dX12_byteAt_18 rfl ?_
    refine fr_iret (pc := 22) dX12_byteAt_22 (Or.inl rfl) ?_
    refine fr_bipush (pc := 142) dX12_go_142 (by decide) ?_
    refine fr_bipush (pc := 144) dX12_go_144 (by decide) ?_
    refine fr_inSI (as := [(0, pm_iand (gI M 143 (gI M 142 5)) 255), (0, 48), (0, 57)]) (rest := []) (ls' := [(0, pm_iand (gI M 143 (gI M 142 5)) 255), (0, 48), (0, 57)]) (c1 := 0) (c2 := 0) (pc := 146) dX12_go_146 pl_12_147 rfl ⟨Nat.le_of_ble_eq_true rfl, Nat.le_of_ble_eq_true rfl⟩ rfl rfl  (by omega) rfl rfl (pm_zc _) ?_ (fun y M' h => h)
    refine fr_iload_n (pc := 0) dX12_within_0 rfl rfl ?_
    refine fr_iload_n (pc := 1) dX12_within_1 rfl rfl ?_
    refine fr_icm_lt (tg := 14) (pc := 2) dX12_within_2 rfl hq (fun hc3 hq => ?_) (fun hc3 hq => ?_)
    · refine fr_iconst (pc := 14) dX12_within_14 (by decide) ?_
      refine fr_iret (pc := 15) dX12_within_15 (Or.inr (Or.inl ⟨rfl, Or.inl rfl⟩)) ?_
      refine fr_ifcT (tg := 208) (pc := 149) dX12_go_149 rfl rfl ?_
      refine fr_aload_n (pc := 208) dX12_go_208 rfl rfl ?_
      refine fr_aload_n (pc := 209) dX12_go_209 rfl rfl ?_
      refine fr_getf (a := 142) (i := 5) (v := gI M 142 5) (t := 0) (pc := 210) dX12_go_210 rfl pf_12_134 rfl s0_142 rfl rfl ?_
      refine fr_aload_n (pc := 213) dX12_go_213 rfl rfl ?_
      refine fr_getf (a := 142) (i := 4) (v := gI M 142 4) (t := 0) (pc := 214) dX12_go_214 rfl pf_12_141 rfl s0_142 rfl rfl ?_
      refine fr_isub (z := w32 ((gI M 142 5) - (gI M 142 4))) (pc := 217) dX12_go_217 rfl ?_
      refine fr_iconst (pc := 218) dX12_go_218 (by decide) ?_
      refine fr_icm_ge (tg := 226) (pc := 219) dX12_go_219 rfl hq (fun hc4 hq => ?_) (fun hc4 hq => ?_)
      · refine fr_iconst (pc := 222) dX12_go_222 (by decide) ?_
        refine fr_goto (tg := 227) (pc := 223) dX12_go_223 rfl ?_
        refine fr_put (a := 142) (i := 6) (pc := 227) dX12_go_227 rfl pf_12_144 rfl s0_142 rfl rfl nf_142_6 rfl ?_
        refine fr_goto (tg := 364) (pc := 230) dX12_go_230 rfl ?_
        exact fr_vret (pc := 364) dX12_go_364 rfl hq
      · refine fr_iconst (pc := 226) dX12_go_226 (by decide) ?_
        refine fr_put (a := 142) (i := 6) (pc := 227) dX12_go_227 rfl pf_12_144 rfl s0_142 rfl rfl nf_142_6 rfl ?_
        refine fr_goto (tg := 364) (pc := 230) dX12_go_230 rfl ?_
        exact fr_vret (pc := 364) dX12_go_364 rfl hq
    · refine fr_iload_n (pc := 5) dX12_within_5 rfl rfl ?_
      refine fr_iload_n (pc := 6) dX12_within_6 rfl rfl ?_
      refine fr_icm_gt (tg := 14) (pc := 7) dX12_within_7 rfl hq (fun hc5 hq => ?_) (fun hc5 hq => ?_)
      · refine fr_iconst (pc := 10) dX12_within_10 (by decide) ?_
        refine fr_goto (tg := 15) (pc := 11) dX12_within_11 rfl ?_
        refine fr_iret (pc := 15) dX12_within_15 (Or.inr (Or.inl ⟨rfl, Or.inr rfl⟩)) ?_
        refine fr_ifcF (tg := 208) (pc := 149) dX12_go_149 rfl rfl ?_
        refine fr_aload_n (pc := 152) dX12_go_152 rfl rfl ?_
        refine fr_aload_n (pc := 153) dX12_go_153 rfl rfl ?_
        refine fr_getf (a := 142) (i := 5) (v := gI M 142 5) (t := 0) (pc := 154) dX12_go_154 rfl pf_12_134 rfl s0_142 rfl rfl ?_
        refine fr_aload_n (pc := 157) dX12_go_157 rfl rfl ?_
        refine fr_getf (a := 142) (i := 4) (v := gI M 142 4) (t := 0) (pc := 158) dX12_go_158 rfl pf_12_141 rfl s0_142 rfl rfl ?_
        refine fr_isub (z := w32 ((gI M 142 5) - (gI M 142 4))) (pc := 161) dX12_go_161 rfl ?_
        refine fr_iconst (pc := 162) dX12_go_162 (by decide) ?_
        refine fr_icm_ge (tg := 188) (pc := 163) dX12_go_163 rfl hq (fun hc6 hq => ?_) (fun hc6 hq => ?_)
        · refine fr_bipush (pc := 166) dX12_go_166 (by decide) ?_
          refine fr_aload_n (pc := 168) dX12_go_168 rfl rfl ?_
          refine fr_getf (a := 142) (i := 7) (v := gI M 142 7) (t := 0) (pc := 169) dX12_go_169 rfl pf_12_151 rfl s0_142 rfl rfl ?_
          refine fr_imul (z := w32 (10 * (gI M 142 7))) (pc := 172) dX12_go_172 rfl ?_
          refine fr_aload_n (pc := 173) dX12_go_173 rfl rfl ?_
          refine fr_aload_n (pc := 174) dX12_go_174 rfl rfl ?_
          refine fr_getf (a := 142) (i := 5) (v := gI M 142 5) (t := 0) (pc := 175) dX12_go_175 rfl pf_12_134 rfl s0_142 rfl rfl ?_
          refine fr_inVI (a := 142) (as := [(0, gI M 142 5)]) (rest := [(0, w32 (10 * (gI M 142 7))), (2, 142)]) (ls' := [(2, 142), (0, gI M 142 5)]) (c1 := 0) (c2 := 0) (pc := 178) dX12_go_178 pl_12_137 rfl ⟨Nat.le_of_ble_eq_true rfl, Nat.le_of_ble_eq_true rfl⟩ rfl rfl rfl s0_142 (Nat.le_of_ble_eq_true rfl) (by omega) rfl rfl (pm_zc _) ?_ (fun y M' h => h)
          refine fr_iload_n (pc := 0) dX12_byteAt_0 rfl rfl ?_
          refine fr_aload_n (pc := 1) dX12_byteAt_1 rfl rfl ?_
          refine fr_getf (a := 142) (i := 3) (v := gI M 142 3) (t := 0) (pc := 2) dX12_byteAt_2 rfl pf_12_131 rfl s0_142 rfl rfl ?_
          refine fr_icmF (tg := 21) (pc := 5) dX12_byteAt_5 (decide_eq_false (by omega)) rfl ?_
          refine fr_aload_n (pc := 8) dX12_byteAt_8 rfl rfl ?_
          refine fr_getr (a := 142) (pc := 9) dX12_byteAt_9 rfl pf_12_7 s0_142 rfl rf_142_1 ?_
          refine fr_iload_n (pc := 12) dX12_byteAt_12 rfl rfl ?_
          refine fr_baload (a := 143) (v := gI M 143 (gI M 142 5)) (pc := 13) dX12_byteAt_13 rfl s0_143 hb2 (Or.inl rfl) rfl ?_
          refine fr_sipush (pc := 14) dX12_byteAt_14 (by decide) ?_
          refine fr_iand (z := pm_iand (gI M 143 (gI M 142 5)) 255) (pc := 17) dX12_byteAt_17 rfl ?_
          refine fr_goto (tg := 22) (pc := 18) dX12_byteAt_18 rfl ?_
          refine fr_iret (pc := 22) dX12_byteAt_22 (Or.inl rfl) ?_
          refine fr_iadd (z := w32 ((w32 (10 * (gI M 142 7))) + (pm_iand (gI M 143 (gI M 142 5)) 255))) (pc := 181) dX12_go_181 rfl ?_
          refine fr_bipush (pc := 182) dX12_go_182 (by decide) ?_
          refine fr_isub (z := w32 ((w32 ((w32 (10 * (gI M 142 7))) + (pm_iand (gI M 143 (gI M 142 5)) 255))) - 48)) (pc := 184) dX12_go_184 rfl ?_
          refine fr_goto (tg := 192) (pc := 185) dX12_go_185 rfl ?_
          refine fr_put (a := 142) (i := 7) (pc := 192) dX12_go_192 rfl pf_12_151 rfl s0_142 rfl rfl nf_142_7 rfl ?_
          refine fr_aload_n (pc := 195) dX12_go_195 rfl rfl ?_
          refine fr_dup (pc := 196) dX12_go_196 pm_t2 ?_
          refine fr_getf (a := 142) (i := 5) (v := gI M 142 5) (t := 0) (pc := 197) dX12_go_197 rfl pf_12_134 rfl s0_142 rfl (gI_nf _ _ (by decide)) ?_
          refine fr_iconst (pc := 200) dX12_go_200 (by decide) ?_
          refine fr_iadd (z := w32 ((gI M 142 5) + 1)) (pc := 201) dX12_go_201 rfl ?_
          refine fr_put (a := 142) (i := 5) (pc := 202) dX12_go_202 rfl pf_12_134 rfl s0_142 rfl rfl nf_142_5 rfl ?_
          refine fr_goto (tg := 134) (pc := 205) dX12_go_205 rfl ?_
          exact hq sc d hd z1 hz1
        · refine fr_aload_n (pc := 188) dX12_go_188 rfl rfl ?_
          refine fr_getf (a := 142) (i := 7) (v := gI M 142 7) (t := 0) (pc := 189) dX12_go_189 rfl pf_12_151 rfl s0_142 rfl rfl ?_
          refine fr_put (a := 142) (i := 7) (pc := 192) dX12_go_192 rfl pf_12_151 rfl s0_142 rfl rfl nf_142_7 rfl ?_
          refine fr_aload_n (pc := 195) dX12_go_195 rfl rfl ?_
          refine fr_dup (pc := 196) dX12_go_196 pm_t2 ?_
          refine fr_getf (a := 142) (i := 5) (v := gI M 142 5) (t := 0) (pc := 197) dX12_go_197 rfl pf_12_134 rfl s0_142 rfl (gI_nf _ _ (by decide)) ?_
          refine fr_iconst (pc := 200) dX12_go_200 (by decide) ?_
          refine fr_iadd (z := w32 ((gI M 142 5) + 1)) (pc := 201) dX12_go_201 rfl ?_
          refine fr_put (a := 142) (i := 5) (pc := 202) dX12_go_202 rfl pf_12_134 rfl s0_142 rfl rfl nf_142_5 rfl ?_
          refine fr_goto (tg := 134) (pc := 205) dX12_go_205 rfl ?_
          exact hq sc d hd z1 hz1
      · refine fr_iconst (pc := 14) dX12_within_14 (by decide) ?_
        refine fr_iret (pc := 15) dX12_within_15 (Or.inr (Or.inl ⟨rfl, Or.inl rfl⟩)) ?_
        refine fr_ifcT (tg := 208) (pc := 149) dX12_go_149 rfl rfl ?_
        refine fr_aload_n (pc := 208) dX12_go_208 rfl rfl ?_
        refine fr_aload_n (pc := 209) dX12_go_209 rfl rfl ?_
        refine fr_getf (a := 142) (i := 5) (v := gI M 142 5) (t := 0) (pc := 210) dX12_go_210 rfl pf_12_134 rfl s0_142 rfl rfl ?_
        refine fr_aload_n (pc := 213) dX12_go_213 rfl rfl ?_
        refine fr_getf (a := 142) (i := 4) (v := gI M 142 4) (t := 0) (pc := 214) dX12_go_214 rfl pf_12_141 rfl s0_142 rfl rfl ?_
        refine fr_isub (z := w32 ((gI M 142 5) - (gI M 142 4))) (pc := 217) dX12_go_217 rfl ?_
        refine fr_iconst (pc := 218) dX12_go_218 (by decide) ?_
        refine fr_icm_ge (tg := 226) (pc := 219) dX12_go_219 rfl hq (fun hc7 hq => ?_) (fun hc7 hq => ?_)
        · refine fr_iconst (pc := 222) dX12_go_222 (by decide) ?_
          refine fr_goto (tg := 227) (pc := 223) dX12_go_223 rfl ?_
          refine fr_put (a := 142) (i := 6) (pc := 227) dX12_go_227 rfl pf_12_144 rfl s0_142 rfl rfl nf_142_6 rfl ?_
          refine fr_goto (tg := 364) (pc := 230) dX12_go_230 rfl ?_
          exact fr_vret (pc := 364) dX12_go_364 rfl hq
        · refine fr_iconst (pc := 226) dX12_go_226 (by decide) ?_
          refine fr_put (a := 142) (i := 6) (pc := 227) dX12_go_227 rfl pf_12_144 rfl s0_142 rfl rfl nf_142_6 rfl ?_
          refine fr_goto (tg := 364) (pc := 230) dX12_go_230 rfl ?_
          exact fr_vret (pc := 364) dX12_go_364 rfl hq
  · refine fr_iconst (pc := 21) dX12_byteAt_21 (by decide) ?_
    refine fr_iret (pc := 22) dX12_byteAt_22 (Or.inl rfl) ?_
    refine fr_bipush (pc := 142) dX12_go_142 (by decide) ?_
    refine fr_bipush (pc := 144) dX12_go_144 (by decide) ?_
    refine fr_inSI (as := [(0, (-1)), (0, 48), (0, 57)]) (rest := []) (ls' := [(0, (-1)), (0, 48), (0, 57)]) (c1 := 0) (c2 := 0) (pc := 146) dX12_go_146 pl_12_147 rfl ⟨Nat.le_of_ble_eq_true rfl, Nat.le_of_ble_eq_true rfl⟩ rfl rfl  (by omega) rfl rfl (pm_zc _) ?_ (fun y M' h => h)
    refine fr_iload_n (pc := 0) dX12_within_0 rfl rfl ?_
    refine fr_iload_n (pc := 1) dX12_within_1 rfl rfl ?_
    refine fr_icmT (tg := 14) (pc := 2) dX12_within_2 rfl rfl ?_
    refine fr_iconst (pc := 14) dX12_within_14 (by decide) ?_
    refine fr_iret (pc := 15) dX12_within_15 (Or.inr (Or.inl ⟨rfl, Or.inl rfl⟩)) ?_
    refine fr_ifcT (tg := 208) (pc := 149) dX12_go_149 rfl rfl ?_
    refine fr_aload_n (pc := 208) dX12_go_208 rfl rfl ?_
    refine fr_aload_n (pc := 209) dX12_go_209 rfl rfl ?_
    refine fr_getf (a := 142) (i := 5) (v := gI M 142 5) (t := 0) (pc := 210) dX12_go_210 rfl pf_12_134 rfl s0_142 rfl rfl ?_
    refine fr_aload_n (pc := 213) dX12_go_213 rfl rfl ?_
    refine fr_getf (a := 142) (i := 4) (v := gI M 142 4) (t := 0) (pc := 214) dX12_go_214 rfl pf_12_141 rfl s0_142 rfl rfl ?_
    refine fr_isub (z := w32 ((gI M 142 5) - (gI M 142 4))) (pc := 217) dX12_go_217 rfl ?_
    refine fr_iconst (pc := 218) dX12_go_218 (by decide) ?_
    refine fr_icm_ge (tg := 226) (pc := 219) dX12_go_219 rfl hq (fun hc8 hq => ?_) (fun hc8 hq => ?_)
    · refine fr_iconst (pc := 222) dX12_go_222 (by decide) ?_
      refine fr_goto (tg := 227) (pc := 223) dX12_go_223 rfl ?_
      refine fr_put (a := 142) (i := 6) (pc := 227) dX12_go_227 rfl pf_12_144 rfl s0_142 rfl rfl nf_142_6 rfl ?_
      refine fr_goto (tg := 364) (pc := 230) dX12_go_230 rfl ?_
      exact fr_vret (pc := 364) dX12_go_364 rfl hq
    · refine fr_iconst (pc := 226) dX12_go_226 (by decide) ?_
      refine fr_put (a := 142) (i := 6) (pc := 227) dX12_go_227 rfl pf_12_144 rfl s0_142 rfl rfl nf_142_6 rfl ?_
      refine fr_goto (tg := 364) (pc := 230) dX12_go_230 rfl ?_
      exact fr_vret (pc := 364) dX12_go_364 rfl hq
theorem k12_go_79_r {M : pm_M} {K : pm_M → Prop} (hq : (if gI M 142 5 < gI M 142 3 then ((0 ≤ gI M 142 5 ∧ gI M 142 5 < 600) ∧ (if pm_iand (gI M 143 (gI M 142 5)) 255 < 97 then K (upI M 142 6 1) else (if pm_iand (gI M 143 (gI M 142 5)) 255 ≤ 122 then k12_go_79 (upI M 142 5 (w32 ((gI M 142 5) + 1))) K else K (upI M 142 6 1)))) else K (upI M 142 6 1))) : k12_go_79 M K := by
  intro sc d hd z1 hz1
  refine fr_aload_n (pc := 79) dX12_go_79 rfl rfl ?_
  refine fr_aload_n (pc := 80) dX12_go_80 rfl rfl ?_
  refine fr_getf (a := 142) (i := 5) (v := gI M 142 5) (t := 0) (pc := 81) dX12_go_81 rfl pf_12_134 rfl s0_142 rfl rfl ?_
  refine fr_inVI (a := 142) (as := [(0, gI M 142 5)]) (rest := []) (ls' := [(2, 142), (0, gI M 142 5)]) (c1 := 0) (c2 := 0) (pc := 84) dX12_go_84 pl_12_137 rfl ⟨Nat.le_of_ble_eq_true rfl, Nat.le_of_ble_eq_true rfl⟩ rfl rfl rfl s0_142 (Nat.le_of_ble_eq_true rfl) (by omega) rfl rfl (pm_zc _) ?_ (fun y M' h => h)
  refine fr_iload_n (pc := 0) dX12_byteAt_0 rfl rfl ?_
  refine fr_aload_n (pc := 1) dX12_byteAt_1 rfl rfl ?_
  refine fr_getf (a := 142) (i := 3) (v := gI M 142 3) (t := 0) (pc := 2) dX12_byteAt_2 rfl pf_12_131 rfl s0_142 rfl rfl ?_
  refine fr_icm_ge (tg := 21) (pc := 5) dX12_byteAt_5 rfl hq (fun hc1 hq => ?_) (fun hc1 hq => ?_)
  · refine fr_aload_n (pc := 8) dX12_byteAt_8 rfl rfl ?_
    refine fr_getr (a := 142) (pc := 9) dX12_byteAt_9 rfl pf_12_7 s0_142 rfl rf_142_1 ?_
    refine fr_iload_n (pc := 12) dX12_byteAt_12 rfl rfl ?_
    obtain ⟨hb2, hq⟩ := hq
    refine fr_baload (a := 143) (v := gI M 143 (gI M 142 5)) (pc := 13) dX12_byteAt_13 rfl s0_143 hb2 (Or.inl rfl) rfl ?_
    refine fr_sipush (pc := 14) dX12_byteAt_14 (by decide) ?_
    refine fr_iand (z := pm_iand (gI M 143 (gI M 142 5)) 255) (pc := 17) dX12_byteAt_17 rfl ?_
    refine fr_goto (tg := 22) (pc := 18) dX12_byteAt_18 rfl ?_
    refine fr_iret (pc := 22) dX12_byteAt_22 (Or.inl rfl) ?_
    refine fr_bipush (pc := 87) dX12_go_87 (by decide) ?_
    refine fr_bipush (pc := 89) dX12_go_89 (by decide) ?_
    refine fr_inSI (as := [(0, pm_iand (gI M 143 (gI M 142 5)) 255), (0, 97), (0, 122)]) (rest := []) (ls' := [(0, pm_iand (gI M 143 (gI M 142 5)) 255), (0, 97), (0, 122)]) (c1 := 0) (c2 := 0) (pc := 91) dX12_go_91 pl_12_147 rfl ⟨Nat.le_of_ble_eq_true rfl, Nat.le_of_ble_eq_true rfl⟩ rfl rfl  (by omega) rfl rfl (pm_zc _) ?_ (fun y M' h => h)
    refine fr_iload_n (pc := 0) dX12_within_0 rfl rfl ?_
    refine fr_iload_n (pc := 1) dX12_within_1 rfl rfl ?_
    refine fr_icm_lt (tg := 14) (pc := 2) dX12_within_2 rfl hq (fun hc3 hq => ?_) (fun hc3 hq => ?_)
    · refine fr_iconst (pc := 14) dX12_within_14 (by decide) ?_
      refine fr_iret (pc := 15) dX12_within_15 (Or.inr (Or.inl ⟨rfl, Or.inl rfl⟩)) ?_
      refine fr_ifcT (tg := 110) (pc := 94) dX12_go_94 rfl rfl ?_
      refine fr_aload_n (pc := 110) dX12_go_110 rfl rfl ?_
      refine fr_iconst (pc := 111) dX12_go_111 (by decide) ?_
      refine fr_put (a := 142) (i := 6) (pc := 112) dX12_go_112 rfl pf_12_144 rfl s0_142 rfl rfl nf_142_6 rfl ?_
      refine fr_goto (tg := 364) (pc := 115) dX12_go_115 rfl ?_
      exact fr_vret (pc := 364) dX12_go_364 rfl hq
    · refine fr_iload_n (pc := 5) dX12_within_5 rfl rfl ?_
      refine fr_iload_n (pc := 6) dX12_within_6 rfl rfl ?_
      refine fr_icm_gt (tg := 14) (pc := 7) dX12_within_7 rfl hq (fun hc4 hq => ?_) (fun hc4 hq => ?_)
      · refine fr_iconst (pc := 10) dX12_within_10 (by decide) ?_
        refine fr_goto (tg := 15) (pc := 11) dX12_within_11 rfl ?_
        refine fr_iret (pc := 15) dX12_within_15 (Or.inr (Or.inl ⟨rfl, Or.inr rfl⟩)) ?_
        refine fr_ifcF (tg := 110) (pc := 94) dX12_go_94 rfl rfl ?_
        refine fr_aload_n (pc := 97) dX12_go_97 rfl rfl ?_
        refine fr_dup (pc := 98) dX12_go_98 pm_t2 ?_
        refine fr_getf (a := 142) (i := 5) (v := gI M 142 5) (t := 0) (pc := 99) dX12_go_99 rfl pf_12_134 rfl s0_142 rfl rfl ?_
        refine fr_iconst (pc := 102) dX12_go_102 (by decide) ?_
        refine fr_iadd (z := w32 ((gI M 142 5) + 1)) (pc := 103) dX12_go_103 rfl ?_
        refine fr_put (a := 142) (i := 5) (pc := 104) dX12_go_104 rfl pf_12_134 rfl s0_142 rfl rfl nf_142_5 rfl ?_
        refine fr_goto (tg := 79) (pc := 107) dX12_go_107 rfl ?_
        exact hq sc d hd z1 hz1
      · refine fr_iconst (pc := 14) dX12_within_14 (by decide) ?_
        refine fr_iret (pc := 15) dX12_within_15 (Or.inr (Or.inl ⟨rfl, Or.inl rfl⟩)) ?_
        refine fr_ifcT (tg := 110) (pc := 94) dX12_go_94 rfl rfl ?_
        refine fr_aload_n (pc := 110) dX12_go_110 rfl rfl ?_
        refine fr_iconst (pc := 111) dX12_go_111 (by decide) ?_
        refine fr_put (a := 142) (i := 6) (pc := 112) dX12_go_112 rfl pf_12_144 rfl s0_142 rfl rfl nf_142_6 rfl ?_
        refine fr_goto (tg := 364) (pc := 115) dX12_go_115 rfl ?_
        exact fr_vret (pc := 364) dX12_go_364 rfl hq
  · refine fr_iconst (pc := 21) dX12_byteAt_21 (by decide) ?_
    refine fr_iret (pc := 22) dX12_byteAt_22 (Or.inl rfl) ?_
    refine fr_bipush (pc := 87) dX12_go_87 (by decide) ?_
    refine fr_bipush (pc := 89) dX12_go_89 (by decide) ?_
    refine fr_inSI (as := [(0, (-1)), (0, 97), (0, 122)]) (rest := []) (ls' := [(0, (-1)), (0, 97), (0, 122)]) (c1 := 0) (c2 := 0) (pc := 91) dX12_go_91 pl_12_147 rfl ⟨Nat.le_of_ble_eq_true rfl, Nat.le_of_ble_eq_true rfl⟩ rfl rfl  (by omega) rfl rfl (pm_zc _) ?_ (fun y M' h => h)
    refine fr_iload_n (pc := 0) dX12_within_0 rfl rfl ?_
    refine fr_iload_n (pc := 1) dX12_within_1 rfl rfl ?_
    refine fr_icmT (tg := 14) (pc := 2) dX12_within_2 rfl rfl ?_
    refine fr_iconst (pc := 14) dX12_within_14 (by decide) ?_
    refine fr_iret (pc := 15) dX12_within_15 (Or.inr (Or.inl ⟨rfl, Or.inl rfl⟩)) ?_
    refine fr_ifcT (tg := 110) (pc := 94) dX12_go_94 rfl rfl ?_
    refine fr_aload_n (pc := 110) dX12_go_110 rfl rfl ?_
    refine fr_iconst (pc := 111) dX12_go_111 (by decide) ?_
    refine fr_put (a := 142) (i := 6) (pc := 112) dX12_go_112 rfl pf_12_144 rfl s0_142 rfl rfl nf_142_6 rfl ?_
    refine fr_goto (tg := 364) (pc := 115) dX12_go_115 rfl ?_
    exact fr_vret (pc := 364) dX12_go_364 rfl hq
theorem k12_isSign_r {a1 : Int} {M : pm_M} {K : Int → pm_M → Prop} (hq : (if a1 = 60 then K 1 M else (if a1 = 62 then K 1 M else (if a1 = 61 then K 1 M else (if a1 = 43 then K 1 M else (if a1 = 45 then K 1 M else (if a1 = 42 then K 1 M else (if a1 = 47 then K 1 M else (if a1 = 37 then K 1 M else (if a1 = 40 then K 1 M else (if a1 = 41 then K 1 M else (if a1 = 123 then K 1 M else (if a1 = 125 then K 1 M else (if a1 = 59 then K 1 M else K 0 M)))))))))))))) : k12_isSign a1 M K := by
  intro sc d hd
  refine fr_iload_n (pc := 0) dX12_isSign_0 rfl rfl ?_
  refine fr_bipush (pc := 1) dX12_isSign_1 (by decide) ?_
  refine fr_icm_eq (tg := 78) (pc := 3) dX12_isSign_3 rfl hq (fun hc1 hq => ?_) (fun hc1 hq => ?_)
  · refine fr_iconst (pc := 78) dX12_isSign_78 (by decide) ?_
    refine fr_goto (tg := 83) (pc := 79) dX12_isSign_79 rfl ?_
    exact fr_iret (pc := 83) dX12_isSign_83 (Or.inr (Or.inl ⟨rfl, Or.inr rfl⟩)) hq
  · refine fr_iload_n (pc := 6) dX12_isSign_6 rfl rfl ?_
    refine fr_bipush (pc := 7) dX12_isSign_7 (by decide) ?_
    refine fr_icm_eq (tg := 78) (pc := 9) dX12_isSign_9 rfl hq (fun hc2 hq => ?_) (fun hc2 hq => ?_)
    · refine fr_iconst (pc := 78) dX12_isSign_78 (by decide) ?_
      refine fr_goto (tg := 83) (pc := 79) dX12_isSign_79 rfl ?_
      exact fr_iret (pc := 83) dX12_isSign_83 (Or.inr (Or.inl ⟨rfl, Or.inr rfl⟩)) hq
    · refine fr_iload_n (pc := 12) dX12_isSign_12 rfl rfl ?_
      refine fr_bipush (pc := 13) dX12_isSign_13 (by decide) ?_
      refine fr_icm_eq (tg := 78) (pc := 15) dX12_isSign_15 rfl hq (fun hc3 hq => ?_) (fun hc3 hq => ?_)
      · refine fr_iconst (pc := 78) dX12_isSign_78 (by decide) ?_
        refine fr_goto (tg := 83) (pc := 79) dX12_isSign_79 rfl ?_
        exact fr_iret (pc := 83) dX12_isSign_83 (Or.inr (Or.inl ⟨rfl, Or.inr rfl⟩)) hq
      · refine fr_iload_n (pc := 18) dX12_isSign_18 rfl rfl ?_
        refine fr_bipush (pc := 19) dX12_isSign_19 (by decide) ?_
        refine fr_icm_eq (tg := 78) (pc := 21) dX12_isSign_21 rfl hq (fun hc4 hq => ?_) (fun hc4 hq => ?_)
        · refine fr_iconst (pc := 78) dX12_isSign_78 (by decide) ?_
          refine fr_goto (tg := 83) (pc := 79) dX12_isSign_79 rfl ?_
          exact fr_iret (pc := 83) dX12_isSign_83 (Or.inr (Or.inl ⟨rfl, Or.inr rfl⟩)) hq
        · refine fr_iload_n (pc := 24) dX12_isSign_24 rfl rfl ?_
          refine fr_bipush (pc := 25) dX12_isSign_25 (by decide) ?_
          refine fr_icm_eq (tg := 78) (pc := 27) dX12_isSign_27 rfl hq (fun hc5 hq => ?_) (fun hc5 hq => ?_)
          · refine fr_iconst (pc := 78) dX12_isSign_78 (by decide) ?_
            refine fr_goto (tg := 83) (pc := 79) dX12_isSign_79 rfl ?_
            exact fr_iret (pc := 83) dX12_isSign_83 (Or.inr (Or.inl ⟨rfl, Or.inr rfl⟩)) hq
          · refine fr_iload_n (pc := 30) dX12_isSign_30 rfl rfl ?_
            refine fr_bipush (pc := 31) dX12_isSign_31 (by decide) ?_
            refine fr_icm_eq (tg := 78) (pc := 33) dX12_isSign_33 rfl hq (fun hc6 hq => ?_) (fun hc6 hq => ?_)
            · refine fr_iconst (pc := 78) dX12_isSign_78 (by decide) ?_
              refine fr_goto (tg := 83) (pc := 79) dX12_isSign_79 rfl ?_
              exact fr_iret (pc := 83) dX12_isSign_83 (Or.inr (Or.inl ⟨rfl, Or.inr rfl⟩)) hq
            · refine fr_iload_n (pc := 36) dX12_isSign_36 rfl rfl ?_
              refine fr_bipush (pc := 37) dX12_isSign_37 (by decide) ?_
              refine fr_icm_eq (tg := 78) (pc := 39) dX12_isSign_39 rfl hq (fun hc7 hq => ?_) (fun hc7 hq => ?_)
              · refine fr_iconst (pc := 78) dX12_isSign_78 (by decide) ?_
                refine fr_goto (tg := 83) (pc := 79) dX12_isSign_79 rfl ?_
                exact fr_iret (pc := 83) dX12_isSign_83 (Or.inr (Or.inl ⟨rfl, Or.inr rfl⟩)) hq
              · refine fr_iload_n (pc := 42) dX12_isSign_42 rfl rfl ?_
                refine fr_bipush (pc := 43) dX12_isSign_43 (by decide) ?_
                refine fr_icm_eq (tg := 78) (pc := 45) dX12_isSign_45 rfl hq (fun hc8 hq => ?_) (fun hc8 hq => ?_)
                · refine fr_iconst (pc := 78) dX12_isSign_78 (by decide) ?_
                  refine fr_goto (tg := 83) (pc := 79) dX12_isSign_79 rfl ?_
                  exact fr_iret (pc := 83) dX12_isSign_83 (Or.inr (Or.inl ⟨rfl, Or.inr rfl⟩)) hq
                · refine fr_iload_n (pc := 48) dX12_isSign_48 rfl rfl ?_
                  refine fr_bipush (pc := 49) dX12_isSign_49 (by decide) ?_
                  refine fr_icm_eq (tg := 78) (pc := 51) dX12_isSign_51 rfl hq (fun hc9 hq => ?_) (fun hc9 hq => ?_)
                  · refine fr_iconst (pc := 78) dX12_isSign_78 (by decide) ?_
                    refine fr_goto (tg := 83) (pc := 79) dX12_isSign_79 rfl ?_
                    exact fr_iret (pc := 83) dX12_isSign_83 (Or.inr (Or.inl ⟨rfl, Or.inr rfl⟩)) hq
                  · refine fr_iload_n (pc := 54) dX12_isSign_54 rfl rfl ?_
                    refine fr_bipush (pc := 55) dX12_isSign_55 (by decide) ?_
                    refine fr_icm_eq (tg := 78) (pc := 57) dX12_isSign_57 rfl hq (fun hc10 hq => ?_) (fun hc10 hq => ?_)
                    · refine fr_iconst (pc := 78) dX12_isSign_78 (by decide) ?_
                      refine fr_goto (tg := 83) (pc := 79) dX12_isSign_79 rfl ?_
                      exact fr_iret (pc := 83) dX12_isSign_83 (Or.inr (Or.inl ⟨rfl, Or.inr rfl⟩)) hq
                    · refine fr_iload_n (pc := 60) dX12_isSign_60 rfl rfl ?_
                      refine fr_bipush (pc := 61) dX12_isSign_61 (by decide) ?_
                      refine fr_icm_eq (tg := 78) (pc := 63) dX12_isSign_63 rfl hq (fun hc11 hq => ?_) (fun hc11 hq => ?_)
                      · refine fr_iconst (pc := 78) dX12_isSign_78 (by decide) ?_
                        refine fr_goto (tg := 83) (pc := 79) dX12_isSign_79 rfl ?_
                        exact fr_iret (pc := 83) dX12_isSign_83 (Or.inr (Or.inl ⟨rfl, Or.inr rfl⟩)) hq
                      · refine fr_iload_n (pc := 66) dX12_isSign_66 rfl rfl ?_
                        refine fr_bipush (pc := 67) dX12_isSign_67 (by decide) ?_
                        refine fr_icm_eq (tg := 78) (pc := 69) dX12_isSign_69 rfl hq (fun hc12 hq => ?_) (fun hc12 hq => ?_)
                        · refine fr_iconst (pc := 78) dX12_isSign_78 (by decide) ?_
                          refine fr_goto (tg := 83) (pc := 79) dX12_isSign_79 rfl ?_
                          exact fr_iret (pc := 83) dX12_isSign_83 (Or.inr (Or.inl ⟨rfl, Or.inr rfl⟩)) hq
                        · refine fr_iload_n (pc := 72) dX12_isSign_72 rfl rfl ?_
                          refine fr_bipush (pc := 73) dX12_isSign_73 (by decide) ?_
                          refine fr_icm_ne (tg := 82) (pc := 75) dX12_isSign_75 rfl hq (fun hc13 hq => ?_) (fun hc13 hq => ?_)
                          · refine fr_iconst (pc := 78) dX12_isSign_78 (by decide) ?_
                            refine fr_goto (tg := 83) (pc := 79) dX12_isSign_79 rfl ?_
                            exact fr_iret (pc := 83) dX12_isSign_83 (Or.inr (Or.inl ⟨rfl, Or.inr rfl⟩)) hq
                          · refine fr_iconst (pc := 82) dX12_isSign_82 (by decide) ?_
                            exact fr_iret (pc := 83) dX12_isSign_83 (Or.inr (Or.inl ⟨rfl, Or.inl rfl⟩)) hq
theorem k12_row_r {c : Nat} {h : Nat} {o : Nat} {a1 a3 : Int} {M : pm_M} {K : Int → pm_M → Prop} (ho : o = 150 ∨ o = 151) (hh : 151 ≤ h) (hq : k12_row_6 c h o a1 a3 (-1) 1 M K) : k12_row c h o a1 a3 M K := by
  intro sc d hd
  rcases ho with rfl | rfl
  · refine fr_iconst (pc := 0) dX12_row_0 (by decide) ?_
    refine fr_istore (ls2 := [(2, 142), (0, a1), (2, 150), (0, a3), (0, (-1)), (9, 0), (9, 0)]) (pc := 1) dX12_row_1 rfl (Nat.le_of_ble_eq_true rfl) rfl ?_
    refine fr_iconst (pc := 3) dX12_row_3 (by decide) ?_
    refine fr_istore (ls2 := [(2, 142), (0, a1), (2, 150), (0, a3), (0, (-1)), (0, 1), (9, 0)]) (pc := 4) dX12_row_4 rfl (Nat.le_of_ble_eq_true rfl) rfl ?_
    exact hq sc d hd (9, 0) pm_t9
  · refine fr_iconst (pc := 0) dX12_row_0 (by decide) ?_
    refine fr_istore (ls2 := [(2, 142), (0, a1), (2, 151), (0, a3), (0, (-1)), (9, 0), (9, 0)]) (pc := 1) dX12_row_1 rfl (Nat.le_of_ble_eq_true rfl) rfl ?_
    refine fr_iconst (pc := 3) dX12_row_3 (by decide) ?_
    refine fr_istore (ls2 := [(2, 142), (0, a1), (2, 151), (0, a3), (0, (-1)), (0, 1), (9, 0)]) (pc := 4) dX12_row_4 rfl (Nat.le_of_ble_eq_true rfl) rfl ?_
    exact hq sc d hd (9, 0) pm_t9
theorem k12_row_6_r {c : Nat} {h : Nat} {o : Nat} {l1 l3 l4 l5 : Int} {M : pm_M} {K : Int → pm_M → Prop} (ho : o = 150 ∨ o = 151) (hh : 151 ≤ h) (hq : (if l5 = 0 then ((l5 = 0 ∨ l5 = 1) ∧ K l5 M) else (if l3 = 0 then (if gI M 142 6 = 0 then (if l4 = (-1) then (∃ c8 c9 : Nat, c8 + c9 ≤ c ∧ k12_statement c8 (h - 1) l1 M (fun r7 M6 => (if r7 = 0 then k12_row_6 c9 h o l1 l3 (gI M 142 18) r7 M6 K else (if l1 = (-1) then k12_row_6 c9 h o l1 l3 (gI M 142 18) r7 M6 K else ((0 ≤ w32 (100 + l1) ∧ w32 (100 + l1) < 800) ∧ k12_row_6 c9 h o l1 l3 (gI M 142 18) r7 (upI M6 o (w32 (100 + l1)) (gI M 142 18)) K))))) else ((l5 = 0 ∨ l5 = 1) ∧ K l5 M)) else (∃ c17 c18 : Nat, c17 + c18 ≤ c ∧ k12_statement c17 (h - 1) l1 M (fun r16 M15 => (if r16 = 0 then k12_row_6 c18 h o l1 l3 (gI M 142 18) r16 M15 K else (if l4 = (-1) then (if l1 = (-1) then k12_row_6 c18 h o l1 l3 (gI M 142 18) r16 M15 K else ((0 ≤ w32 (100 + l1) ∧ w32 (100 + l1) < 800) ∧ k12_row_6 c18 h o l1 l3 (gI M 142 18) r16 (upI M15 o (w32 (100 + l1)) (gI M 142 18)) K)) else ((0 ≤ w32 (100 + l4) ∧ w32 (100 + l4) < 800) ∧ k12_row_6 c18 h o l1 l3 (gI M 142 18) r16 (upI M15 152 (w32 (100 + l4)) (gI M 142 18)) K)))))) else (if gI M 142 6 = 3 then (if gI M 142 7 = 125 then ((l5 = 0 ∨ l5 = 1) ∧ K l5 M) else (∃ c30 c31 : Nat, c30 + c31 ≤ c ∧ k12_statement c30 (h - 1) l1 M (fun r29 M28 => (if r29 = 0 then k12_row_6 c31 h o l1 l3 (gI M 142 18) r29 M28 K else (if l4 = (-1) then (if l1 = (-1) then k12_row_6 c31 h o l1 l3 (gI M 142 18) r29 M28 K else ((0 ≤ w32 (100 + l1) ∧ w32 (100 + l1) < 800) ∧ k12_row_6 c31 h o l1 l3 (gI M 142 18) r29 (upI M28 o (w32 (100 + l1)) (gI M 142 18)) K)) else ((0 ≤ w32 (100 + l4) ∧ w32 (100 + l4) < 800) ∧ k12_row_6 c31 h o l1 l3 (gI M 142 18) r29 (upI M28 152 (w32 (100 + l4)) (gI M 142 18)) K)))))) else (∃ c40 c41 : Nat, c40 + c41 ≤ c ∧ k12_statement c40 (h - 1) l1 M (fun r39 M38 => (if r39 = 0 then k12_row_6 c41 h o l1 l3 (gI M 142 18) r39 M38 K else (if l4 = (-1) then (if l1 = (-1) then k12_row_6 c41 h o l1 l3 (gI M 142 18) r39 M38 K else ((0 ≤ w32 (100 + l1) ∧ w32 (100 + l1) < 800) ∧ k12_row_6 c41 h o l1 l3 (gI M 142 18) r39 (upI M38 o (w32 (100 + l1)) (gI M 142 18)) K)) else ((0 ≤ w32 (100 + l4) ∧ w32 (100 + l4) < 800) ∧ k12_row_6 c41 h o l1 l3 (gI M 142 18) r39 (upI M38 152 (w32 (100 + l4)) (gI M 142 18)) K))))))))) : k12_row_6 c h o l1 l3 l4 l5 M K := by
  intro sc d hd z6 hz6
  rcases ho with rfl | rfl
  · refine fr_iload (pc := 6) dX12_row_6 rfl rfl ?_
    refine fr_ifc_eq (tg := 107) (pc := 8) dX12_row_8 rfl hq (fun hc1 hq => ?_) (fun hc1 hq => ?_)
    · refine fr_iload (pc := 107) dX12_row_107 rfl rfl ?_
      obtain ⟨hz2, hq⟩ := hq
      exact fr_iret (pc := 109) dX12_row_109 (Or.inr (Or.inl ⟨rfl, hz2⟩)) hq
    · refine fr_iload_n (pc := 11) dX12_row_11 rfl rfl ?_
      refine fr_ifc_eq (tg := 27) (pc := 12) dX12_row_12 rfl hq (fun hc3 hq => ?_) (fun hc3 hq => ?_)
      · refine fr_aload_n (pc := 27) dX12_row_27 rfl rfl ?_
        refine fr_getf (a := 142) (i := 6) (v := gI M 142 6) (t := 0) (pc := 28) dX12_row_28 rfl pf_12_144 rfl s0_142 rfl rfl ?_
        refine fr_ifc_ne (tg := 40) (pc := 31) dX12_row_31 rfl hq (fun hc4 hq => ?_) (fun hc4 hq => ?_)
        · refine fr_iload (pc := 34) dX12_row_34 rfl rfl ?_
          refine fr_iconst (pc := 36) dX12_row_36 (by decide) ?_
          refine fr_icm_ne (tg := 107) (pc := 37) dX12_row_37 rfl hq (fun hc5 hq => ?_) (fun hc5 hq => ?_)
          · refine fr_aload_n (pc := 40) dX12_row_40 rfl rfl ?_
            refine fr_getf (a := 142) (i := 18) (v := gI M 142 18) (t := 0) (pc := 41) dX12_row_41 rfl pf_12_170 rfl s0_142 rfl rfl ?_
            refine fr_istore (ls2 := [(2, 142), (0, l1), (2, 150), (0, l3), (0, l4), (0, l5), (0, gI M 142 18)]) (pc := 44) dX12_row_44 rfl (Nat.le_of_ble_eq_true rfl) rfl ?_
            refine fr_aload_n (pc := 46) dX12_row_46 rfl rfl ?_
            refine fr_iload_n (pc := 47) dX12_row_47 rfl rfl ?_
            obtain ⟨c8, c9, hcc10, hq⟩ := hq
            refine fr_inVI (a := 142) (as := [(0, l1)]) (rest := []) (ls' := [(2, 142), (0, l1), (9, 0), (9, 0), (9, 0), (9, 0), (9, 0), (9, 0)]) (c1 := c8) (c2 := c9) (pc := 48) dX12_row_48 pl_12_214 rfl ⟨Nat.le_of_ble_eq_true rfl, Nat.le_of_ble_eq_true rfl⟩ rfl rfl rfl s0_142 (Nat.le_of_ble_eq_true rfl) (by omega) rfl rfl hcc10 (hq sc _ (by omega)) (fun r7 M6 hq => ?_)
            refine fr_istore (ls2 := [(2, 142), (0, l1), (2, 150), (0, l3), (0, l4), (0, r7), (0, gI M 142 18)]) (pc := 51) dX12_row_51 rfl (Nat.le_of_ble_eq_true rfl) rfl ?_
            refine fr_iload (pc := 53) dX12_row_53 rfl rfl ?_
            refine fr_ifc_eq (tg := 77) (pc := 55) dX12_row_55 rfl hq (fun hc11 hq => ?_) (fun hc11 hq => ?_)
            · refine fr_iload (pc := 77) dX12_row_77 rfl rfl ?_
              refine fr_ifcT (tg := 100) (pc := 79) dX12_row_79 (decide_eq_true hc11) rfl ?_
              refine fr_iload (pc := 100) dX12_row_100 rfl rfl ?_
              refine fr_istore (ls2 := [(2, 142), (0, l1), (2, 150), (0, l3), (0, gI M 142 18), (0, r7), (0, gI M 142 18)]) (pc := 102) dX12_row_102 rfl (Nat.le_of_ble_eq_true rfl) rfl ?_
              refine fr_goto (tg := 6) (pc := 104) dX12_row_104 rfl ?_
              exact hq sc d hd (0, gI M 142 18) pm_t0
            · refine fr_iload (pc := 58) dX12_row_58 rfl rfl ?_
              refine fr_iconst (pc := 60) dX12_row_60 (by decide) ?_
              refine fr_icmF (tg := 77) (pc := 61) dX12_row_61 (decide_eq_false (fun z => z hc5)) rfl ?_
              refine fr_iload_n (pc := 64) dX12_row_64 rfl rfl ?_
              refine fr_iconst (pc := 65) dX12_row_65 (by decide) ?_
              refine fr_icm_eq (tg := 77) (pc := 66) dX12_row_66 rfl hq (fun hc12 hq => ?_) (fun hc12 hq => ?_)
              · refine fr_iload (pc := 77) dX12_row_77 rfl rfl ?_
                refine fr_ifcF (tg := 100) (pc := 79) dX12_row_79 (decide_eq_false hc11) rfl ?_
                refine fr_iload (pc := 82) dX12_row_82 rfl rfl ?_
                refine fr_iconst (pc := 84) dX12_row_84 (by decide) ?_
                refine fr_icmT (tg := 100) (pc := 85) dX12_row_85 (decide_eq_true hc5) rfl ?_
                refine fr_iload (pc := 100) dX12_row_100 rfl rfl ?_
                refine fr_istore (ls2 := [(2, 142), (0, l1), (2, 150), (0, l3), (0, gI M 142 18), (0, r7), (0, gI M 142 18)]) (pc := 102) dX12_row_102 rfl (Nat.le_of_ble_eq_true rfl) rfl ?_
                refine fr_goto (tg := 6) (pc := 104) dX12_row_104 rfl ?_
                exact hq sc d hd (0, gI M 142 18) pm_t0
              · refine fr_aload_n (pc := 69) dX12_row_69 rfl rfl ?_
                refine fr_bipush (pc := 70) dX12_row_70 (by decide) ?_
                refine fr_iload_n (pc := 72) dX12_row_72 rfl rfl ?_
                refine fr_iadd (z := w32 (100 + l1)) (pc := 73) dX12_row_73 rfl ?_
                refine fr_iload (pc := 74) dX12_row_74 rfl rfl ?_
                obtain ⟨hb13, hq⟩ := hq
                refine fr_iastore (a := 150) (pc := 76) dX12_row_76 rfl s0_150 hb13 nr_150 ?_
                refine fr_iload (pc := 77) dX12_row_77 rfl rfl ?_
                refine fr_ifcF (tg := 100) (pc := 79) dX12_row_79 (decide_eq_false hc11) rfl ?_
                refine fr_iload (pc := 82) dX12_row_82 rfl rfl ?_
                refine fr_iconst (pc := 84) dX12_row_84 (by decide) ?_
                refine fr_icmT (tg := 100) (pc := 85) dX12_row_85 (decide_eq_true hc5) rfl ?_
                refine fr_iload (pc := 100) dX12_row_100 rfl rfl ?_
                refine fr_istore (ls2 := [(2, 142), (0, l1), (2, 150), (0, l3), (0, gI M 142 18), (0, r7), (0, gI M 142 18)]) (pc := 102) dX12_row_102 rfl (Nat.le_of_ble_eq_true rfl) rfl ?_
                refine fr_goto (tg := 6) (pc := 104) dX12_row_104 rfl ?_
                exact hq sc d hd (0, gI M 142 18) pm_t0
          · refine fr_iload (pc := 107) dX12_row_107 rfl rfl ?_
            obtain ⟨hz14, hq⟩ := hq
            exact fr_iret (pc := 109) dX12_row_109 (Or.inr (Or.inl ⟨rfl, hz14⟩)) hq
        · refine fr_aload_n (pc := 40) dX12_row_40 rfl rfl ?_
          refine fr_getf (a := 142) (i := 18) (v := gI M 142 18) (t := 0) (pc := 41) dX12_row_41 rfl pf_12_170 rfl s0_142 rfl rfl ?_
          refine fr_istore (ls2 := [(2, 142), (0, l1), (2, 150), (0, l3), (0, l4), (0, l5), (0, gI M 142 18)]) (pc := 44) dX12_row_44 rfl (Nat.le_of_ble_eq_true rfl) rfl ?_
          refine fr_aload_n (pc := 46) dX12_row_46 rfl rfl ?_
          refine fr_iload_n (pc := 47) dX12_row_47 rfl rfl ?_
          obtain ⟨c17, c18, hcc19, hq⟩ := hq
          refine fr_inVI (a := 142) (as := [(0, l1)]) (rest := []) (ls' := [(2, 142), (0, l1), (9, 0), (9, 0), (9, 0), (9, 0), (9, 0), (9, 0)]) (c1 := c17) (c2 := c18) (pc := 48) dX12_row_48 pl_12_214 rfl ⟨Nat.le_of_ble_eq_true rfl, Nat.le_of_ble_eq_true rfl⟩ rfl rfl rfl s0_142 (Nat.le_of_ble_eq_true rfl) (by omega) rfl rfl hcc19 (hq sc _ (by omega)) (fun r16 M15 hq => ?_)
          refine fr_istore (ls2 := [(2, 142), (0, l1), (2, 150), (0, l3), (0, l4), (0, r16), (0, gI M 142 18)]) (pc := 51) dX12_row_51 rfl (Nat.le_of_ble_eq_true rfl) rfl ?_
          refine fr_iload (pc := 53) dX12_row_53 rfl rfl ?_
          refine fr_ifc_eq (tg := 77) (pc := 55) dX12_row_55 rfl hq (fun hc20 hq => ?_) (fun hc20 hq => ?_)
          · refine fr_iload (pc := 77) dX12_row_77 rfl rfl ?_
            refine fr_ifcT (tg := 100) (pc := 79) dX12_row_79 (decide_eq_true hc20) rfl ?_
            refine fr_iload (pc := 100) dX12_row_100 rfl rfl ?_
            refine fr_istore (ls2 := [(2, 142), (0, l1), (2, 150), (0, l3), (0, gI M 142 18), (0, r16), (0, gI M 142 18)]) (pc := 102) dX12_row_102 rfl (Nat.le_of_ble_eq_true rfl) rfl ?_
            refine fr_goto (tg := 6) (pc := 104) dX12_row_104 rfl ?_
            exact hq sc d hd (0, gI M 142 18) pm_t0
          · refine fr_iload (pc := 58) dX12_row_58 rfl rfl ?_
            refine fr_iconst (pc := 60) dX12_row_60 (by decide) ?_
            refine fr_icm_ne (tg := 77) (pc := 61) dX12_row_61 rfl hq (fun hc21 hq => ?_) (fun hc21 hq => ?_)
            · refine fr_iload_n (pc := 64) dX12_row_64 rfl rfl ?_
              refine fr_iconst (pc := 65) dX12_row_65 (by decide) ?_
              refine fr_icm_eq (tg := 77) (pc := 66) dX12_row_66 rfl hq (fun hc22 hq => ?_) (fun hc22 hq => ?_)
              · refine fr_iload (pc := 77) dX12_row_77 rfl rfl ?_
                refine fr_ifcF (tg := 100) (pc := 79) dX12_row_79 (decide_eq_false hc20) rfl ?_
                refine fr_iload (pc := 82) dX12_row_82 rfl rfl ?_
                refine fr_iconst (pc := 84) dX12_row_84 (by decide) ?_
                refine fr_icmT (tg := 100) (pc := 85) dX12_row_85 (decide_eq_true hc21) rfl ?_
                refine fr_iload (pc := 100) dX12_row_100 rfl rfl ?_
                refine fr_istore (ls2 := [(2, 142), (0, l1), (2, 150), (0, l3), (0, gI M 142 18), (0, r16), (0, gI M 142 18)]) (pc := 102) dX12_row_102 rfl (Nat.le_of_ble_eq_true rfl) rfl ?_
                refine fr_goto (tg := 6) (pc := 104) dX12_row_104 rfl ?_
                exact hq sc d hd (0, gI M 142 18) pm_t0
              · refine fr_aload_n (pc := 69) dX12_row_69 rfl rfl ?_
                refine fr_bipush (pc := 70) dX12_row_70 (by decide) ?_
                refine fr_iload_n (pc := 72) dX12_row_72 rfl rfl ?_
                refine fr_iadd (z := w32 (100 + l1)) (pc := 73) dX12_row_73 rfl ?_
                refine fr_iload (pc := 74) dX12_row_74 rfl rfl ?_
                obtain ⟨hb23, hq⟩ := hq
                refine fr_iastore (a := 150) (pc := 76) dX12_row_76 rfl s0_150 hb23 nr_150 ?_
                refine fr_iload (pc := 77) dX12_row_77 rfl rfl ?_
                refine fr_ifcF (tg := 100) (pc := 79) dX12_row_79 (decide_eq_false hc20) rfl ?_
                refine fr_iload (pc := 82) dX12_row_82 rfl rfl ?_
                refine fr_iconst (pc := 84) dX12_row_84 (by decide) ?_
                refine fr_icmT (tg := 100) (pc := 85) dX12_row_85 (decide_eq_true hc21) rfl ?_
                refine fr_iload (pc := 100) dX12_row_100 rfl rfl ?_
                refine fr_istore (ls2 := [(2, 142), (0, l1), (2, 150), (0, l3), (0, gI M 142 18), (0, r16), (0, gI M 142 18)]) (pc := 102) dX12_row_102 rfl (Nat.le_of_ble_eq_true rfl) rfl ?_
                refine fr_goto (tg := 6) (pc := 104) dX12_row_104 rfl ?_
                exact hq sc d hd (0, gI M 142 18) pm_t0
            · refine fr_iload (pc := 77) dX12_row_77 rfl rfl ?_
              refine fr_ifcF (tg := 100) (pc := 79) dX12_row_79 (decide_eq_false hc20) rfl ?_
              refine fr_iload (pc := 82) dX12_row_82 rfl rfl ?_
              refine fr_iconst (pc := 84) dX12_row_84 (by decide) ?_
              refine fr_icmF (tg := 100) (pc := 85) dX12_row_85 (decide_eq_false hc21) rfl ?_
              refine fr_aload_n (pc := 88) dX12_row_88 rfl rfl ?_
              refine fr_getr (a := 142) (pc := 89) dX12_row_89 rfl pf_12_38 s0_142 rfl rf_142_17 ?_
              refine fr_bipush (pc := 92) dX12_row_92 (by decide) ?_
              refine fr_iload (pc := 94) dX12_row_94 rfl rfl ?_
              refine fr_iadd (z := w32 (100 + l4)) (pc := 96) dX12_row_96 rfl ?_
              refine fr_iload (pc := 97) dX12_row_97 rfl rfl ?_
              obtain ⟨hb24, hq⟩ := hq
              refine fr_iastore (a := 152) (pc := 99) dX12_row_99 rfl s0_152 hb24 nr_152 ?_
              refine fr_iload (pc := 100) dX12_row_100 rfl rfl ?_
              refine fr_istore (ls2 := [(2, 142), (0, l1), (2, 150), (0, l3), (0, gI M 142 18), (0, r16), (0, gI M 142 18)]) (pc := 102) dX12_row_102 rfl (Nat.le_of_ble_eq_true rfl) rfl ?_
              refine fr_goto (tg := 6) (pc := 104) dX12_row_104 rfl ?_
              exact hq sc d hd (0, gI M 142 18) pm_t0
      · refine fr_aload_n (pc := 15) dX12_row_15 rfl rfl ?_
        refine fr_bipush (pc := 16) dX12_row_16 (by decide) ?_
        refine fr_inVI (a := 142) (as := [(0, 125)]) (rest := []) (ls' := [(2, 142), (0, 125)]) (c1 := 0) (c2 := c) (pc := 18) dX12_row_18 pl_12_161 rfl ⟨Nat.le_of_ble_eq_true rfl, Nat.le_of_ble_eq_true rfl⟩ rfl rfl rfl s0_142 (Nat.le_of_ble_eq_true rfl) (by omega) rfl rfl (pm_zc _) ?_ (fun y M' h => h)
        refine fr_aload_n (pc := 0) dX12_is_0 rfl rfl ?_
        refine fr_getf (a := 142) (i := 6) (v := gI M 142 6) (t := 0) (pc := 1) dX12_is_1 rfl pf_12_144 rfl s0_142 rfl rfl ?_
        refine fr_iconst (pc := 4) dX12_is_4 (by decide) ?_
        refine fr_icm_ne (tg := 20) (pc := 5) dX12_is_5 rfl hq (fun hc25 hq => ?_) (fun hc25 hq => ?_)
        · refine fr_aload_n (pc := 8) dX12_is_8 rfl rfl ?_
          refine fr_getf (a := 142) (i := 7) (v := gI M 142 7) (t := 0) (pc := 9) dX12_is_9 rfl pf_12_151 rfl s0_142 rfl rfl ?_
          refine fr_iload_n (pc := 12) dX12_is_12 rfl rfl ?_
          refine fr_icm_ne (tg := 20) (pc := 13) dX12_is_13 rfl hq (fun hc26 hq => ?_) (fun hc26 hq => ?_)
          · refine fr_iconst (pc := 16) dX12_is_16 (by decide) ?_
            refine fr_goto (tg := 21) (pc := 17) dX12_is_17 rfl ?_
            refine fr_iret (pc := 21) dX12_is_21 (Or.inr (Or.inl ⟨rfl, Or.inr rfl⟩)) ?_
            refine fr_ifcF (tg := 40) (pc := 21) dX12_row_21 rfl rfl ?_
            refine fr_goto (tg := 107) (pc := 24) dX12_row_24 rfl ?_
            refine fr_iload (pc := 107) dX12_row_107 rfl rfl ?_
            obtain ⟨hz27, hq⟩ := hq
            exact fr_iret (pc := 109) dX12_row_109 (Or.inr (Or.inl ⟨rfl, hz27⟩)) hq
          · refine fr_iconst (pc := 20) dX12_is_20 (by decide) ?_
            refine fr_iret (pc := 21) dX12_is_21 (Or.inr (Or.inl ⟨rfl, Or.inl rfl⟩)) ?_
            refine fr_ifcT (tg := 40) (pc := 21) dX12_row_21 rfl rfl ?_
            refine fr_aload_n (pc := 40) dX12_row_40 rfl rfl ?_
            refine fr_getf (a := 142) (i := 18) (v := gI M 142 18) (t := 0) (pc := 41) dX12_row_41 rfl pf_12_170 rfl s0_142 rfl rfl ?_
            refine fr_istore (ls2 := [(2, 142), (0, l1), (2, 150), (0, l3), (0, l4), (0, l5), (0, gI M 142 18)]) (pc := 44) dX12_row_44 rfl (Nat.le_of_ble_eq_true rfl) rfl ?_
            refine fr_aload_n (pc := 46) dX12_row_46 rfl rfl ?_
            refine fr_iload_n (pc := 47) dX12_row_47 rfl rfl ?_
            obtain ⟨c30, c31, hcc32, hq⟩ := hq
            refine fr_inVI (a := 142) (as := [(0, l1)]) (rest := []) (ls' := [(2, 142), (0, l1), (9, 0), (9, 0), (9, 0), (9, 0), (9, 0), (9, 0)]) (c1 := c30) (c2 := c31) (pc := 48) dX12_row_48 pl_12_214 rfl ⟨Nat.le_of_ble_eq_true rfl, Nat.le_of_ble_eq_true rfl⟩ rfl rfl rfl s0_142 (Nat.le_of_ble_eq_true rfl) (by omega) rfl rfl hcc32 (hq sc _ (by omega)) (fun r29 M28 hq => ?_)
            refine fr_istore (ls2 := [(2, 142), (0, l1), (2, 150), (0, l3), (0, l4), (0, r29), (0, gI M 142 18)]) (pc := 51) dX12_row_51 rfl (Nat.le_of_ble_eq_true rfl) rfl ?_
            refine fr_iload (pc := 53) dX12_row_53 rfl rfl ?_
            refine fr_ifc_eq (tg := 77) (pc := 55) dX12_row_55 rfl hq (fun hc33 hq => ?_) (fun hc33 hq => ?_)
            · refine fr_iload (pc := 77) dX12_row_77 rfl rfl ?_
              refine fr_ifcT (tg := 100) (pc := 79) dX12_row_79 (decide_eq_true hc33) rfl ?_
              refine fr_iload (pc := 100) dX12_row_100 rfl rfl ?_
              refine fr_istore (ls2 := [(2, 142), (0, l1), (2, 150), (0, l3), (0, gI M 142 18), (0, r29), (0, gI M 142 18)]) (pc := 102) dX12_row_102 rfl (Nat.le_of_ble_eq_true rfl) rfl ?_
              refine fr_goto (tg := 6) (pc := 104) dX12_row_104 rfl ?_
              exact hq sc d hd (0, gI M 142 18) pm_t0
            · refine fr_iload (pc := 58) dX12_row_58 rfl rfl ?_
              refine fr_iconst (pc := 60) dX12_row_60 (by decide) ?_
              refine fr_icm_ne (tg := 77) (pc := 61) dX12_row_61 rfl hq (fun hc34 hq => ?_) (fun hc34 hq => ?_)
              · refine fr_iload_n (pc := 64) dX12_row_64 rfl rfl ?_
                refine fr_iconst (pc := 65) dX12_row_65 (by decide) ?_
                refine fr_icm_eq (tg := 77) (pc := 66) dX12_row_66 rfl hq (fun hc35 hq => ?_) (fun hc35 hq => ?_)
                · refine fr_iload (pc := 77) dX12_row_77 rfl rfl ?_
                  refine fr_ifcF (tg := 100) (pc := 79) dX12_row_79 (decide_eq_false hc33) rfl ?_
                  refine fr_iload (pc := 82) dX12_row_82 rfl rfl ?_
                  refine fr_iconst (pc := 84) dX12_row_84 (by decide) ?_
                  refine fr_icmT (tg := 100) (pc := 85) dX12_row_85 (decide_eq_true hc34) rfl ?_
                  refine fr_iload (pc := 100) dX12_row_100 rfl rfl ?_
                  refine fr_istore (ls2 := [(2, 142), (0, l1), (2, 150), (0, l3), (0, gI M 142 18), (0, r29), (0, gI M 142 18)]) (pc := 102) dX12_row_102 rfl (Nat.le_of_ble_eq_true rfl) rfl ?_
                  refine fr_goto (tg := 6) (pc := 104) dX12_row_104 rfl ?_
                  exact hq sc d hd (0, gI M 142 18) pm_t0
                · refine fr_aload_n (pc := 69) dX12_row_69 rfl rfl ?_
                  refine fr_bipush (pc := 70) dX12_row_70 (by decide) ?_
                  refine fr_iload_n (pc := 72) dX12_row_72 rfl rfl ?_
                  refine fr_iadd (z := w32 (100 + l1)) (pc := 73) dX12_row_73 rfl ?_
                  refine fr_iload (pc := 74) dX12_row_74 rfl rfl ?_
                  obtain ⟨hb36, hq⟩ := hq
                  refine fr_iastore (a := 150) (pc := 76) dX12_row_76 rfl s0_150 hb36 nr_150 ?_
                  refine fr_iload (pc := 77) dX12_row_77 rfl rfl ?_
                  refine fr_ifcF (tg := 100) (pc := 79) dX12_row_79 (decide_eq_false hc33) rfl ?_
                  refine fr_iload (pc := 82) dX12_row_82 rfl rfl ?_
                  refine fr_iconst (pc := 84) dX12_row_84 (by decide) ?_
                  refine fr_icmT (tg := 100) (pc := 85) dX12_row_85 (decide_eq_true hc34) rfl ?_
                  refine fr_iload (pc := 100) dX12_row_100 rfl rfl ?_
                  refine fr_istore (ls2 := [(2, 142), (0, l1), (2, 150), (0, l3), (0, gI M 142 18), (0, r29), (0, gI M 142 18)]) (pc := 102) dX12_row_102 rfl (Nat.le_of_ble_eq_true rfl) rfl ?_
                  refine fr_goto (tg := 6) (pc := 104) dX12_row_104 rfl ?_
                  exact hq sc d hd (0, gI M 142 18) pm_t0
              · refine fr_iload (pc := 77) dX12_row_77 rfl rfl ?_
                refine fr_ifcF (tg := 100) (pc := 79) dX12_row_79 (decide_eq_false hc33) rfl ?_
                refine fr_iload (pc := 82) dX12_row_82 rfl rfl ?_
                refine fr_iconst (pc := 84) dX12_row_84 (by decide) ?_
                refine fr_icmF (tg := 100) (pc := 85) dX12_row_85 (decide_eq_false hc34) rfl ?_
                refine fr_aload_n (pc := 88) dX12_row_88 rfl rfl ?_
                refine fr_getr (a := 142) (pc := 89) dX12_row_89 rfl pf_12_38 s0_142 rfl rf_142_17 ?_
                refine fr_bipush (pc := 92) dX12_row_92 (by decide) ?_
                refine fr_iload (pc := 94) dX12_row_94 rfl rfl ?_
                refine fr_iadd (z := w32 (100 + l4)) (pc := 96) dX12_row_96 rfl ?_
                refine fr_iload (pc := 97) dX12_row_97 rfl rfl ?_
                obtain ⟨hb37, hq⟩ := hq
                refine fr_iastore (a := 152) (pc := 99) dX12_row_99 rfl s0_152 hb37 nr_152 ?_
                refine fr_iload (pc := 100) dX12_row_100 rfl rfl ?_
                refine fr_istore (ls2 := [(2, 142), (0, l1), (2, 150), (0, l3), (0, gI M 142 18), (0, r29), (0, gI M 142 18)]) (pc := 102) dX12_row_102 rfl (Nat.le_of_ble_eq_true rfl) rfl ?_
                refine fr_goto (tg := 6) (pc := 104) dX12_row_104 rfl ?_
                exact hq sc d hd (0, gI M 142 18) pm_t0
        · refine fr_iconst (pc := 20) dX12_is_20 (by decide) ?_
          refine fr_iret (pc := 21) dX12_is_21 (Or.inr (Or.inl ⟨rfl, Or.inl rfl⟩)) ?_
          refine fr_ifcT (tg := 40) (pc := 21) dX12_row_21 rfl rfl ?_
          refine fr_aload_n (pc := 40) dX12_row_40 rfl rfl ?_
          refine fr_getf (a := 142) (i := 18) (v := gI M 142 18) (t := 0) (pc := 41) dX12_row_41 rfl pf_12_170 rfl s0_142 rfl rfl ?_
          refine fr_istore (ls2 := [(2, 142), (0, l1), (2, 150), (0, l3), (0, l4), (0, l5), (0, gI M 142 18)]) (pc := 44) dX12_row_44 rfl (Nat.le_of_ble_eq_true rfl) rfl ?_
          refine fr_aload_n (pc := 46) dX12_row_46 rfl rfl ?_
          refine fr_iload_n (pc := 47) dX12_row_47 rfl rfl ?_
          obtain ⟨c40, c41, hcc42, hq⟩ := hq
          refine fr_inVI (a := 142) (as := [(0, l1)]) (rest := []) (ls' := [(2, 142), (0, l1), (9, 0), (9, 0), (9, 0), (9, 0), (9, 0), (9, 0)]) (c1 := c40) (c2 := c41) (pc := 48) dX12_row_48 pl_12_214 rfl ⟨Nat.le_of_ble_eq_true rfl, Nat.le_of_ble_eq_true rfl⟩ rfl rfl rfl s0_142 (Nat.le_of_ble_eq_true rfl) (by omega) rfl rfl hcc42 (hq sc _ (by omega)) (fun r39 M38 hq => ?_)
          refine fr_istore (ls2 := [(2, 142), (0, l1), (2, 150), (0, l3), (0, l4), (0, r39), (0, gI M 142 18)]) (pc := 51) dX12_row_51 rfl (Nat.le_of_ble_eq_true rfl) rfl ?_
          refine fr_iload (pc := 53) dX12_row_53 rfl rfl ?_
          refine fr_ifc_eq (tg := 77) (pc := 55) dX12_row_55 rfl hq (fun hc43 hq => ?_) (fun hc43 hq => ?_)
          · refine fr_iload (pc := 77) dX12_row_77 rfl rfl ?_
            refine fr_ifcT (tg := 100) (pc := 79) dX12_row_79 (decide_eq_true hc43) rfl ?_
            refine fr_iload (pc := 100) dX12_row_100 rfl rfl ?_
            refine fr_istore (ls2 := [(2, 142), (0, l1), (2, 150), (0, l3), (0, gI M 142 18), (0, r39), (0, gI M 142 18)]) (pc := 102) dX12_row_102 rfl (Nat.le_of_ble_eq_true rfl) rfl ?_
            refine fr_goto (tg := 6) (pc := 104) dX12_row_104 rfl ?_
            exact hq sc d hd (0, gI M 142 18) pm_t0
          · refine fr_iload (pc := 58) dX12_row_58 rfl rfl ?_
            refine fr_iconst (pc := 60) dX12_row_60 (by decide) ?_
            refine fr_icm_ne (tg := 77) (pc := 61) dX12_row_61 rfl hq (fun hc44 hq => ?_) (fun hc44 hq => ?_)
            · refine fr_iload_n (pc := 64) dX12_row_64 rfl rfl ?_
              refine fr_iconst (pc := 65) dX12_row_65 (by decide) ?_
              refine fr_icm_eq (tg := 77) (pc := 66) dX12_row_66 rfl hq (fun hc45 hq => ?_) (fun hc45 hq => ?_)
              · refine fr_iload (pc := 77) dX12_row_77 rfl rfl ?_
                refine fr_ifcF (tg := 100) (pc := 79) dX12_row_79 (decide_eq_false hc43) rfl ?_
                refine fr_iload (pc := 82) dX12_row_82 rfl rfl ?_
                refine fr_iconst (pc := 84) dX12_row_84 (by decide) ?_
                refine fr_icmT (tg := 100) (pc := 85) dX12_row_85 (decide_eq_true hc44) rfl ?_
                refine fr_iload (pc := 100) dX12_row_100 rfl rfl ?_
                refine fr_istore (ls2 := [(2, 142), (0, l1), (2, 150), (0, l3), (0, gI M 142 18), (0, r39), (0, gI M 142 18)]) (pc := 102) dX12_row_102 rfl (Nat.le_of_ble_eq_true rfl) rfl ?_
                refine fr_goto (tg := 6) (pc := 104) dX12_row_104 rfl ?_
                exact hq sc d hd (0, gI M 142 18) pm_t0
              · refine fr_aload_n (pc := 69) dX12_row_69 rfl rfl ?_
                refine fr_bipush (pc := 70) dX12_row_70 (by decide) ?_
                refine fr_iload_n (pc := 72) dX12_row_72 rfl rfl ?_
                refine fr_iadd (z := w32 (100 + l1)) (pc := 73) dX12_row_73 rfl ?_
                refine fr_iload (pc := 74) dX12_row_74 rfl rfl ?_
                obtain ⟨hb46, hq⟩ := hq
                refine fr_iastore (a := 150) (pc := 76) dX12_row_76 rfl s0_150 hb46 nr_150 ?_
                refine fr_iload (pc := 77) dX12_row_77 rfl rfl ?_
                refine fr_ifcF (tg := 100) (pc := 79) dX12_row_79 (decide_eq_false hc43) rfl ?_
                refine fr_iload (pc := 82) dX12_row_82 rfl rfl ?_
                refine fr_iconst (pc := 84) dX12_row_84 (by decide) ?_
                refine fr_icmT (tg := 100) (pc := 85) dX12_row_85 (decide_eq_true hc44) rfl ?_
                refine fr_iload (pc := 100) dX12_row_100 rfl rfl ?_
                refine fr_istore (ls2 := [(2, 142), (0, l1), (2, 150), (0, l3), (0, gI M 142 18), (0, r39), (0, gI M 142 18)]) (pc := 102) dX12_row_102 rfl (Nat.le_of_ble_eq_true rfl) rfl ?_
                refine fr_goto (tg := 6) (pc := 104) dX12_row_104 rfl ?_
                exact hq sc d hd (0, gI M 142 18) pm_t0
            · refine fr_iload (pc := 77) dX12_row_77 rfl rfl ?_
              refine fr_ifcF (tg := 100) (pc := 79) dX12_row_79 (decide_eq_false hc43) rfl ?_
              refine fr_iload (pc := 82) dX12_row_82 rfl rfl ?_
              refine fr_iconst (pc := 84) dX12_row_84 (by decide) ?_
              refine fr_icmF (tg := 100) (pc := 85) dX12_row_85 (decide_eq_false hc44) rfl ?_
              refine fr_aload_n (pc := 88) dX12_row_88 rfl rfl ?_
              refine fr_getr (a := 142) (pc := 89) dX12_row_89 rfl pf_12_38 s0_142 rfl rf_142_17 ?_
              refine fr_bipush (pc := 92) dX12_row_92 (by decide) ?_
              refine fr_iload (pc := 94) dX12_row_94 rfl rfl ?_
              refine fr_iadd (z := w32 (100 + l4)) (pc := 96) dX12_row_96 rfl ?_
              refine fr_iload (pc := 97) dX12_row_97 rfl rfl ?_
              obtain ⟨hb47, hq⟩ := hq
              refine fr_iastore (a := 152) (pc := 99) dX12_row_99 rfl s0_152 hb47 nr_152 ?_
              refine fr_iload (pc := 100) dX12_row_100 rfl rfl ?_
              refine fr_istore (ls2 := [(2, 142), (0, l1), (2, 150), (0, l3), (0, gI M 142 18), (0, r39), (0, gI M 142 18)]) (pc := 102) dX12_row_102 rfl (Nat.le_of_ble_eq_true rfl) rfl ?_
              refine fr_goto (tg := 6) (pc := 104) dX12_row_104 rfl ?_
              exact hq sc d hd (0, gI M 142 18) pm_t0
  · refine fr_iload (pc := 6) dX12_row_6 rfl rfl ?_
    refine fr_ifc_eq (tg := 107) (pc := 8) dX12_row_8 rfl hq (fun hc1 hq => ?_) (fun hc1 hq => ?_)
    · refine fr_iload (pc := 107) dX12_row_107 rfl rfl ?_
      obtain ⟨hz2, hq⟩ := hq
      exact fr_iret (pc := 109) dX12_row_109 (Or.inr (Or.inl ⟨rfl, hz2⟩)) hq
    · refine fr_iload_n (pc := 11) dX12_row_11 rfl rfl ?_
      refine fr_ifc_eq (tg := 27) (pc := 12) dX12_row_12 rfl hq (fun hc3 hq => ?_) (fun hc3 hq => ?_)
      · refine fr_aload_n (pc := 27) dX12_row_27 rfl rfl ?_
        refine fr_getf (a := 142) (i := 6) (v := gI M 142 6) (t := 0) (pc := 28) dX12_row_28 rfl pf_12_144 rfl s0_142 rfl rfl ?_
        refine fr_ifc_ne (tg := 40) (pc := 31) dX12_row_31 rfl hq (fun hc4 hq => ?_) (fun hc4 hq => ?_)
        · refine fr_iload (pc := 34) dX12_row_34 rfl rfl ?_
          refine fr_iconst (pc := 36) dX12_row_36 (by decide) ?_
          refine fr_icm_ne (tg := 107) (pc := 37) dX12_row_37 rfl hq (fun hc5 hq => ?_) (fun hc5 hq => ?_)
          · refine fr_aload_n (pc := 40) dX12_row_40 rfl rfl ?_
            refine fr_getf (a := 142) (i := 18) (v := gI M 142 18) (t := 0) (pc := 41) dX12_row_41 rfl pf_12_170 rfl s0_142 rfl rfl ?_
            refine fr_istore (ls2 := [(2, 142), (0, l1), (2, 151), (0, l3), (0, l4), (0, l5), (0, gI M 142 18)]) (pc := 44) dX12_row_44 rfl (Nat.le_of_ble_eq_true rfl) rfl ?_
            refine fr_aload_n (pc := 46) dX12_row_46 rfl rfl ?_
            refine fr_iload_n (pc := 47) dX12_row_47 rfl rfl ?_
            obtain ⟨c8, c9, hcc10, hq⟩ := hq
            refine fr_inVI (a := 142) (as := [(0, l1)]) (rest := []) (ls' := [(2, 142), (0, l1), (9, 0), (9, 0), (9, 0), (9, 0), (9, 0), (9, 0)]) (c1 := c8) (c2 := c9) (pc := 48) dX12_row_48 pl_12_214 rfl ⟨Nat.le_of_ble_eq_true rfl, Nat.le_of_ble_eq_true rfl⟩ rfl rfl rfl s0_142 (Nat.le_of_ble_eq_true rfl) (by omega) rfl rfl hcc10 (hq sc _ (by omega)) (fun r7 M6 hq => ?_)
            refine fr_istore (ls2 := [(2, 142), (0, l1), (2, 151), (0, l3), (0, l4), (0, r7), (0, gI M 142 18)]) (pc := 51) dX12_row_51 rfl (Nat.le_of_ble_eq_true rfl) rfl ?_
            refine fr_iload (pc := 53) dX12_row_53 rfl rfl ?_
            refine fr_ifc_eq (tg := 77) (pc := 55) dX12_row_55 rfl hq (fun hc11 hq => ?_) (fun hc11 hq => ?_)
            · refine fr_iload (pc := 77) dX12_row_77 rfl rfl ?_
              refine fr_ifcT (tg := 100) (pc := 79) dX12_row_79 (decide_eq_true hc11) rfl ?_
              refine fr_iload (pc := 100) dX12_row_100 rfl rfl ?_
              refine fr_istore (ls2 := [(2, 142), (0, l1), (2, 151), (0, l3), (0, gI M 142 18), (0, r7), (0, gI M 142 18)]) (pc := 102) dX12_row_102 rfl (Nat.le_of_ble_eq_true rfl) rfl ?_
              refine fr_goto (tg := 6) (pc := 104) dX12_row_104 rfl ?_
              exact hq sc d hd (0, gI M 142 18) pm_t0
            · refine fr_iload (pc := 58) dX12_row_58 rfl rfl ?_
              refine fr_iconst (pc := 60) dX12_row_60 (by decide) ?_
              refine fr_icmF (tg := 77) (pc := 61) dX12_row_61 (decide_eq_false (fun z => z hc5)) rfl ?_
              refine fr_iload_n (pc := 64) dX12_row_64 rfl rfl ?_
              refine fr_iconst (pc := 65) dX12_row_65 (by decide) ?_
              refine fr_icm_eq (tg := 77) (pc := 66) dX12_row_66 rfl hq (fun hc12 hq => ?_) (fun hc12 hq => ?_)
              · refine fr_iload (pc := 77) dX12_row_77 rfl rfl ?_
                refine fr_ifcF (tg := 100) (pc := 79) dX12_row_79 (decide_eq_false hc11) rfl ?_
                refine fr_iload (pc := 82) dX12_row_82 rfl rfl ?_
                refine fr_iconst (pc := 84) dX12_row_84 (by decide) ?_
                refine fr_icmT (tg := 100) (pc := 85) dX12_row_85 (decide_eq_true hc5) rfl ?_
                refine fr_iload (pc := 100) dX12_row_100 rfl rfl ?_
                refine fr_istore (ls2 := [(2, 142), (0, l1), (2, 151), (0, l3), (0, gI M 142 18), (0, r7), (0, gI M 142 18)]) (pc := 102) dX12_row_102 rfl (Nat.le_of_ble_eq_true rfl) rfl ?_
                refine fr_goto (tg := 6) (pc := 104) dX12_row_104 rfl ?_
                exact hq sc d hd (0, gI M 142 18) pm_t0
              · refine fr_aload_n (pc := 69) dX12_row_69 rfl rfl ?_
                refine fr_bipush (pc := 70) dX12_row_70 (by decide) ?_
                refine fr_iload_n (pc := 72) dX12_row_72 rfl rfl ?_
                refine fr_iadd (z := w32 (100 + l1)) (pc := 73) dX12_row_73 rfl ?_
                refine fr_iload (pc := 74) dX12_row_74 rfl rfl ?_
                obtain ⟨hb13, hq⟩ := hq
                refine fr_iastore (a := 151) (pc := 76) dX12_row_76 rfl s0_151 hb13 nr_151 ?_
                refine fr_iload (pc := 77) dX12_row_77 rfl rfl ?_
                refine fr_ifcF (tg := 100) (pc := 79) dX12_row_79 (decide_eq_false hc11) rfl ?_
                refine fr_iload (pc := 82) dX12_row_82 rfl rfl ?_
                refine fr_iconst (pc := 84) dX12_row_84 (by decide) ?_
                refine fr_icmT (tg := 100) (pc := 85) dX12_row_85 (decide_eq_true hc5) rfl ?_
                refine fr_iload (pc := 100) dX12_row_100 rfl rfl ?_
                refine fr_istore (ls2 := [(2, 142), (0, l1), (2, 151), (0, l3), (0, gI M 142 18), (0, r7), (0, gI M 142 18)]) (pc := 102) dX12_row_102 rfl (Nat.le_of_ble_eq_true rfl) rfl ?_
                refine fr_goto (tg := 6) (pc := 104) dX12_row_104 rfl ?_
                exact hq sc d hd (0, gI M 142 18) pm_t0
          · refine fr_iload (pc := 107) dX12_row_107 rfl rfl ?_
            obtain ⟨hz14, hq⟩ := hq
            exact fr_iret (pc := 109) dX12_row_109 (Or.inr (Or.inl ⟨rfl, hz14⟩)) hq
        · refine fr_aload_n (pc := 40) dX12_row_40 rfl rfl ?_
          refine fr_getf (a := 142) (i := 18) (v := gI M 142 18) (t := 0) (pc := 41) dX12_row_41 rfl pf_12_170 rfl s0_142 rfl rfl ?_
          refine fr_istore (ls2 := [(2, 142), (0, l1), (2, 151), (0, l3), (0, l4), (0, l5), (0, gI M 142 18)]) (pc := 44) dX12_row_44 rfl (Nat.le_of_ble_eq_true rfl) rfl ?_
          refine fr_aload_n (pc := 46) dX12_row_46 rfl rfl ?_
          refine fr_iload_n (pc := 47) dX12_row_47 rfl rfl ?_
          obtain ⟨c17, c18, hcc19, hq⟩ := hq
          refine fr_inVI (a := 142) (as := [(0, l1)]) (rest := []) (ls' := [(2, 142), (0, l1), (9, 0), (9, 0), (9, 0), (9, 0), (9, 0), (9, 0)]) (c1 := c17) (c2 := c18) (pc := 48) dX12_row_48 pl_12_214 rfl ⟨Nat.le_of_ble_eq_true rfl, Nat.le_of_ble_eq_true rfl⟩ rfl rfl rfl s0_142 (Nat.le_of_ble_eq_true rfl) (by omega) rfl rfl hcc19 (hq sc _ (by omega)) (fun r16 M15 hq => ?_)
          refine fr_istore (ls2 := [(2, 142), (0, l1), (2, 151), (0, l3), (0, l4), (0, r16), (0, gI M 142 18)]) (pc := 51) dX12_row_51 rfl (Nat.le_of_ble_eq_true rfl) rfl ?_
          refine fr_iload (pc := 53) dX12_row_53 rfl rfl ?_
          refine fr_ifc_eq (tg := 77) (pc := 55) dX12_row_55 rfl hq (fun hc20 hq => ?_) (fun hc20 hq => ?_)
          · refine fr_iload (pc := 77) dX12_row_77 rfl rfl ?_
            refine fr_ifcT (tg := 100) (pc := 79) dX12_row_79 (decide_eq_true hc20) rfl ?_
            refine fr_iload (pc := 100) dX12_row_100 rfl rfl ?_
            refine fr_istore (ls2 := [(2, 142), (0, l1), (2, 151), (0, l3), (0, gI M 142 18), (0, r16), (0, gI M 142 18)]) (pc := 102) dX12_row_102 rfl (Nat.le_of_ble_eq_true rfl) rfl ?_
            refine fr_goto (tg := 6) (pc := 104) dX12_row_104 rfl ?_
            exact hq sc d hd (0, gI M 142 18) pm_t0
          · refine fr_iload (pc := 58) dX12_row_58 rfl rfl ?_
            refine fr_iconst (pc := 60) dX12_row_60 (by decide) ?_
            refine fr_icm_ne (tg := 77) (pc := 61) dX12_row_61 rfl hq (fun hc21 hq => ?_) (fun hc21 hq => ?_)
            · refine fr_iload_n (pc := 64) dX12_row_64 rfl rfl ?_
              refine fr_iconst (pc := 65) dX12_row_65 (by decide) ?_
              refine fr_icm_eq (tg := 77) (pc := 66) dX12_row_66 rfl hq (fun hc22 hq => ?_) (fun hc22 hq => ?_)
              · refine fr_iload (pc := 77) dX12_row_77 rfl rfl ?_
                refine fr_ifcF (tg := 100) (pc := 79) dX12_row_79 (decide_eq_false hc20) rfl ?_
                refine fr_iload (pc := 82) dX12_row_82 rfl rfl ?_
                refine fr_iconst (pc := 84) dX12_row_84 (by decide) ?_
                refine fr_icmT (tg := 100) (pc := 85) dX12_row_85 (decide_eq_true hc21) rfl ?_
                refine fr_iload (pc := 100) dX12_row_100 rfl rfl ?_
                refine fr_istore (ls2 := [(2, 142), (0, l1), (2, 151), (0, l3), (0, gI M 142 18), (0, r16), (0, gI M 142 18)]) (pc := 102) dX12_row_102 rfl (Nat.le_of_ble_eq_true rfl) rfl ?_
                refine fr_goto (tg := 6) (pc := 104) dX12_row_104 rfl ?_
                exact hq sc d hd (0, gI M 142 18) pm_t0
              · refine fr_aload_n (pc := 69) dX12_row_69 rfl rfl ?_
                refine fr_bipush (pc := 70) dX12_row_70 (by decide) ?_
                refine fr_iload_n (pc := 72) dX12_row_72 rfl rfl ?_
                refine fr_iadd (z := w32 (100 + l1)) (pc := 73) dX12_row_73 rfl ?_
                refine fr_iload (pc := 74) dX12_row_74 rfl rfl ?_
                obtain ⟨hb23, hq⟩ := hq
                refine fr_iastore (a := 151) (pc := 76) dX12_row_76 rfl s0_151 hb23 nr_151 ?_
                refine fr_iload (pc := 77) dX12_row_77 rfl rfl ?_
                refine fr_ifcF (tg := 100) (pc := 79) dX12_row_79 (decide_eq_false hc20) rfl ?_
                refine fr_iload (pc := 82) dX12_row_82 rfl rfl ?_
                refine fr_iconst (pc := 84) dX12_row_84 (by decide) ?_
                refine fr_icmT (tg := 100) (pc := 85) dX12_row_85 (decide_eq_true hc21) rfl ?_
                refine fr_iload (pc := 100) dX12_row_100 rfl rfl ?_
                refine fr_istore (ls2 := [(2, 142), (0, l1), (2, 151), (0, l3), (0, gI M 142 18), (0, r16), (0, gI M 142 18)]) (pc := 102) dX12_row_102 rfl (Nat.le_of_ble_eq_true rfl) rfl ?_
                refine fr_goto (tg := 6) (pc := 104) dX12_row_104 rfl ?_
                exact hq sc d hd (0, gI M 142 18) pm_t0
            · refine fr_iload (pc := 77) dX12_row_77 rfl rfl ?_
              refine fr_ifcF (tg := 100) (pc := 79) dX12_row_79 (decide_eq_false hc20) rfl ?_
              refine fr_iload (pc := 82) dX12_row_82 rfl rfl ?_
              refine fr_iconst (pc := 84) dX12_row_84 (by decide) ?_
              refine fr_icmF (tg := 100) (pc := 85) dX12_row_85 (decide_eq_false hc21) rfl ?_
              refine fr_aload_n (pc := 88) dX12_row_88 rfl rfl ?_
              refine fr_getr (a := 142) (pc := 89) dX12_row_89 rfl pf_12_38 s0_142 rfl rf_142_17 ?_
              refine fr_bipush (pc := 92) dX12_row_92 (by decide) ?_
              refine fr_iload (pc := 94) dX12_row_94 rfl rfl ?_
              refine fr_iadd (z := w32 (100 + l4)) (pc := 96) dX12_row_96 rfl ?_
              refine fr_iload (pc := 97) dX12_row_97 rfl rfl ?_
              obtain ⟨hb24, hq⟩ := hq
              refine fr_iastore (a := 152) (pc := 99) dX12_row_99 rfl s0_152 hb24 nr_152 ?_
              refine fr_iload (pc := 100) dX12_row_100 rfl rfl ?_
              refine fr_istore (ls2 := [(2, 142), (0, l1), (2, 151), (0, l3), (0, gI M 142 18), (0, r16), (0, gI M 142 18)]) (pc := 102) dX12_row_102 rfl (Nat.le_of_ble_eq_true rfl) rfl ?_
              refine fr_goto (tg := 6) (pc := 104) dX12_row_104 rfl ?_
              exact hq sc d hd (0, gI M 142 18) pm_t0
      · refine fr_aload_n (pc := 15) dX12_row_15 rfl rfl ?_
        refine fr_bipush (pc := 16) dX12_row_16 (by decide) ?_
        refine fr_inVI (a := 142) (as := [(0, 125)]) (rest := []) (ls' := [(2, 142), (0, 125)]) (c1 := 0) (c2 := c) (pc := 18) dX12_row_18 pl_12_161 rfl ⟨Nat.le_of_ble_eq_true rfl, Nat.le_of_ble_eq_true rfl⟩ rfl rfl rfl s0_142 (Nat.le_of_ble_eq_true rfl) (by omega) rfl rfl (pm_zc _) ?_ (fun y M' h => h)
        refine fr_aload_n (pc := 0) dX12_is_0 rfl rfl ?_
        refine fr_getf (a := 142) (i := 6) (v := gI M 142 6) (t := 0) (pc := 1) dX12_is_1 rfl pf_12_144 rfl s0_142 rfl rfl ?_
        refine fr_iconst (pc := 4) dX12_is_4 (by decide) ?_
        refine fr_icm_ne (tg := 20) (pc := 5) dX12_is_5 rfl hq (fun hc25 hq => ?_) (fun hc25 hq => ?_)
        · refine fr_aload_n (pc := 8) dX12_is_8 rfl rfl ?_
          refine fr_getf (a := 142) (i := 7) (v := gI M 142 7) (t := 0) (pc := 9) dX12_is_9 rfl pf_12_151 rfl s0_142 rfl rfl ?_
          refine fr_iload_n (pc := 12) dX12_is_12 rfl rfl ?_
          refine fr_icm_ne (tg := 20) (pc := 13) dX12_is_13 rfl hq (fun hc26 hq => ?_) (fun hc26 hq => ?_)
          · refine fr_iconst (pc := 16) dX12_is_16 (by decide) ?_
            refine fr_goto (tg := 21) (pc := 17) dX12_is_17 rfl ?_
            refine fr_iret (pc := 21) dX12_is_21 (Or.inr (Or.inl ⟨rfl, Or.inr rfl⟩)) ?_
            refine fr_ifcF (tg := 40) (pc := 21) dX12_row_21 rfl rfl ?_
            refine fr_goto (tg := 107) (pc := 24) dX12_row_24 rfl ?_
            refine fr_iload (pc := 107) dX12_row_107 rfl rfl ?_
            obtain ⟨hz27, hq⟩ := hq
            exact fr_iret (pc := 109) dX12_row_109 (Or.inr (Or.inl ⟨rfl, hz27⟩)) hq
          · refine fr_iconst (pc := 20) dX12_is_20 (by decide) ?_
            refine fr_iret (pc := 21) dX12_is_21 (Or.inr (Or.inl ⟨rfl, Or.inl rfl⟩)) ?_
            refine fr_ifcT (tg := 40) (pc := 21) dX12_row_21 rfl rfl ?_
            refine fr_aload_n (pc := 40) dX12_row_40 rfl rfl ?_
            refine fr_getf (a := 142) (i := 18) (v := gI M 142 18) (t := 0) (pc := 41) dX12_row_41 rfl pf_12_170 rfl s0_142 rfl rfl ?_
            refine fr_istore (ls2 := [(2, 142), (0, l1), (2, 151), (0, l3), (0, l4), (0, l5), (0, gI M 142 18)]) (pc := 44) dX12_row_44 rfl (Nat.le_of_ble_eq_true rfl) rfl ?_
            refine fr_aload_n (pc := 46) dX12_row_46 rfl rfl ?_
            refine fr_iload_n (pc := 47) dX12_row_47 rfl rfl ?_
            obtain ⟨c30, c31, hcc32, hq⟩ := hq
            refine fr_inVI (a := 142) (as := [(0, l1)]) (rest := []) (ls' := [(2, 142), (0, l1), (9, 0), (9, 0), (9, 0), (9, 0), (9, 0), (9, 0)]) (c1 := c30) (c2 := c31) (pc := 48) dX12_row_48 pl_12_214 rfl ⟨Nat.le_of_ble_eq_true rfl, Nat.le_of_ble_eq_true rfl⟩ rfl rfl rfl s0_142 (Nat.le_of_ble_eq_true rfl) (by omega) rfl rfl hcc32 (hq sc _ (by omega)) (fun r29 M28 hq => ?_)
            refine fr_istore (ls2 := [(2, 142), (0, l1), (2, 151), (0, l3), (0, l4), (0, r29), (0, gI M 142 18)]) (pc := 51) dX12_row_51 rfl (Nat.le_of_ble_eq_true rfl) rfl ?_
            refine fr_iload (pc := 53) dX12_row_53 rfl rfl ?_
            refine fr_ifc_eq (tg := 77) (pc := 55) dX12_row_55 rfl hq (fun hc33 hq => ?_) (fun hc33 hq => ?_)
            · refine fr_iload (pc := 77) dX12_row_77 rfl rfl ?_
              refine fr_ifcT (tg := 100) (pc := 79) dX12_row_79 (decide_eq_true hc33) rfl ?_
              refine fr_iload (pc := 100) dX12_row_100 rfl rfl ?_
              refine fr_istore (ls2 := [(2, 142), (0, l1), (2, 151), (0, l3), (0, gI M 142 18), (0, r29), (0, gI M 142 18)]) (pc := 102) dX12_row_102 rfl (Nat.le_of_ble_eq_true rfl) rfl ?_
              refine fr_goto (tg := 6) (pc := 104) dX12_row_104 rfl ?_
              exact hq sc d hd (0, gI M 142 18) pm_t0
            · refine fr_iload (pc := 58) dX12_row_58 rfl rfl ?_
              refine fr_iconst (pc := 60) dX12_row_60 (by decide) ?_
              refine fr_icm_ne (tg := 77) (pc := 61) dX12_row_61 rfl hq (fun hc34 hq => ?_) (fun hc34 hq => ?_)
              · refine fr_iload_n (pc := 64) dX12_row_64 rfl rfl ?_
                refine fr_iconst (pc := 65) dX12_row_65 (by decide) ?_
                refine fr_icm_eq (tg := 77) (pc := 66) dX12_row_66 rfl hq (fun hc35 hq => ?_) (fun hc35 hq => ?_)
                · refine fr_iload (pc := 77) dX12_row_77 rfl rfl ?_
                  refine fr_ifcF (tg := 100) (pc := 79) dX12_row_79 (decide_eq_false hc33) rfl ?_
                  refine fr_iload (pc := 82) dX12_row_82 rfl rfl ?_
                  refine fr_iconst (pc := 84) dX12_row_84 (by decide) ?_
                  refine fr_icmT (tg := 100) (pc := 85) dX12_row_85 (decide_eq_true hc34) rfl ?_
                  refine fr_iload (pc := 100) dX12_row_100 rfl rfl ?_
                  refine fr_istore (ls2 := [(2, 142), (0, l1), (2, 151), (0, l3), (0, gI M 142 18), (0, r29), (0, gI M 142 18)]) (pc := 102) dX12_row_102 rfl (Nat.le_of_ble_eq_true rfl) rfl ?_
                  refine fr_goto (tg := 6) (pc := 104) dX12_row_104 rfl ?_
                  exact hq sc d hd (0, gI M 142 18) pm_t0
                · refine fr_aload_n (pc := 69) dX12_row_69 rfl rfl ?_
                  refine fr_bipush (pc := 70) dX12_row_70 (by decide) ?_
                  refine fr_iload_n (pc := 72) dX12_row_72 rfl rfl ?_
                  refine fr_iadd (z := w32 (100 + l1)) (pc := 73) dX12_row_73 rfl ?_
                  refine fr_iload (pc := 74) dX12_row_74 rfl rfl ?_
                  obtain ⟨hb36, hq⟩ := hq
                  refine fr_iastore (a := 151) (pc := 76) dX12_row_76 rfl s0_151 hb36 nr_151 ?_
                  refine fr_iload (pc := 77) dX12_row_77 rfl rfl ?_
                  refine fr_ifcF (tg := 100) (pc := 79) dX12_row_79 (decide_eq_false hc33) rfl ?_
                  refine fr_iload (pc := 82) dX12_row_82 rfl rfl ?_
                  refine fr_iconst (pc := 84) dX12_row_84 (by decide) ?_
                  refine fr_icmT (tg := 100) (pc := 85) dX12_row_85 (decide_eq_true hc34) rfl ?_
                  refine fr_iload (pc := 100) dX12_row_100 rfl rfl ?_
                  refine fr_istore (ls2 := [(2, 142), (0, l1), (2, 151), (0, l3), (0, gI M 142 18), (0, r29), (0, gI M 142 18)]) (pc := 102) dX12_row_102 rfl (Nat.le_of_ble_eq_true rfl) rfl ?_
                  refine fr_goto (tg := 6) (pc := 104) dX12_row_104 rfl ?_
                  exact hq sc d hd (0, gI M 142 18) pm_t0
              · refine fr_iload (pc := 77) dX12_row_77 rfl rfl ?_
                refine fr_ifcF (tg := 100) (pc := 79) dX12_row_79 (decide_eq_false hc33) rfl ?_
                refine fr_iload (pc := 82) dX12_row_82 rfl rfl ?_
                refine fr_iconst (pc := 84) dX12_row_84 (by decide) ?_
                refine fr_icmF (tg := 100) (pc := 85) dX12_row_85 (decide_eq_false hc34) rfl ?_
                refine fr_aload_n (pc := 88) dX12_row_88 rfl rfl ?_
                refine fr_getr (a := 142) (pc := 89) dX12_row_89 rfl pf_12_38 s0_142 rfl rf_142_17 ?_
                refine fr_bipush (pc := 92) dX12_row_92 (by decide) ?_
                refine fr_iload (pc := 94) dX12_row_94 rfl rfl ?_
                refine fr_iadd (z := w32 (100 + l4)) (pc := 96) dX12_row_96 rfl ?_
                refine fr_iload (pc := 97) dX12_row_97 rfl rfl ?_
                obtain ⟨hb37, hq⟩ := hq
                refine fr_iastore (a := 152) (pc := 99) dX12_row_99 rfl s0_152 hb37 nr_152 ?_
                refine fr_iload (pc := 100) dX12_row_100 rfl rfl ?_
                refine fr_istore (ls2 := [(2, 142), (0, l1), (2, 151), (0, l3), (0, gI M 142 18), (0, r29), (0, gI M 142 18)]) (pc := 102) dX12_row_102 rfl (Nat.le_of_ble_eq_true rfl) rfl ?_
                refine fr_goto (tg := 6) (pc := 104) dX12_row_104 rfl ?_
                exact hq sc d hd (0, gI M 142 18) pm_t0
        · refine fr_iconst (pc := 20) dX12_is_20 (by decide) ?_
          refine fr_iret (pc := 21) dX12_is_21 (Or.inr (Or.inl ⟨rfl, Or.inl rfl⟩)) ?_
          refine fr_ifcT (tg := 40) (pc := 21) dX12_row_21 rfl rfl ?_
          refine fr_aload_n (pc := 40) dX12_row_40 rfl rfl ?_
          refine fr_getf (a := 142) (i := 18) (v := gI M 142 18) (t := 0) (pc := 41) dX12_row_41 rfl pf_12_170 rfl s0_142 rfl rfl ?_
          refine fr_istore (ls2 := [(2, 142), (0, l1), (2, 151), (0, l3), (0, l4), (0, l5), (0, gI M 142 18)]) (pc := 44) dX12_row_44 rfl (Nat.le_of_ble_eq_true rfl) rfl ?_
          refine fr_aload_n (pc := 46) dX12_row_46 rfl rfl ?_
          refine fr_iload_n (pc := 47) dX12_row_47 rfl rfl ?_
          obtain ⟨c40, c41, hcc42, hq⟩ := hq
          refine fr_inVI (a := 142) (as := [(0, l1)]) (rest := []) (ls' := [(2, 142), (0, l1), (9, 0), (9, 0), (9, 0), (9, 0), (9, 0), (9, 0)]) (c1 := c40) (c2 := c41) (pc := 48) dX12_row_48 pl_12_214 rfl ⟨Nat.le_of_ble_eq_true rfl, Nat.le_of_ble_eq_true rfl⟩ rfl rfl rfl s0_142 (Nat.le_of_ble_eq_true rfl) (by omega) rfl rfl hcc42 (hq sc _ (by omega)) (fun r39 M38 hq => ?_)
          refine fr_istore (ls2 := [(2, 142), (0, l1), (2, 151), (0, l3), (0, l4), (0, r39), (0, gI M 142 18)]) (pc := 51) dX12_row_51 rfl (Nat.le_of_ble_eq_true rfl) rfl ?_
          refine fr_iload (pc := 53) dX12_row_53 rfl rfl ?_
          refine fr_ifc_eq (tg := 77) (pc := 55) dX12_row_55 rfl hq (fun hc43 hq => ?_) (fun hc43 hq => ?_)
          · refine fr_iload (pc := 77) dX12_row_77 rfl rfl ?_
            refine fr_ifcT (tg := 100) (pc := 79) dX12_row_79 (decide_eq_true hc43) rfl ?_
            refine fr_iload (pc := 100) dX12_row_100 rfl rfl ?_
            refine fr_istore (ls2 := [(2, 142), (0, l1), (2, 151), (0, l3), (0, gI M 142 18), (0, r39), (0, gI M 142 18)]) (pc := 102) dX12_row_102 rfl (Nat.le_of_ble_eq_true rfl) rfl ?_
            refine fr_goto (tg := 6) (pc := 104) dX12_row_104 rfl ?_
            exact hq sc d hd (0, gI M 142 18) pm_t0
          · refine fr_iload (pc := 58) dX12_row_58 rfl rfl ?_
            refine fr_iconst (pc := 60) dX12_row_60 (by decide) ?_
            refine fr_icm_ne (tg := 77) (pc := 61) dX12_row_61 rfl hq (fun hc44 hq => ?_) (fun hc44 hq => ?_)
            · refine fr_iload_n (pc := 64) dX12_row_64 rfl rfl ?_
              refine fr_iconst (pc := 65) dX12_row_65 (by decide) ?_
              refine fr_icm_eq (tg := 77) (pc := 66) dX12_row_66 rfl hq (fun hc45 hq => ?_) (fun hc45 hq => ?_)
              · refine fr_iload (pc := 77) dX12_row_77 rfl rfl ?_
                refine fr_ifcF (tg := 100) (pc := 79) dX12_row_79 (decide_eq_false hc43) rfl ?_
                refine fr_iload (pc := 82) dX12_row_82 rfl rfl ?_
                refine fr_iconst (pc := 84) dX12_row_84 (by decide) ?_
                refine fr_icmT (tg := 100) (pc := 85) dX12_row_85 (decide_eq_true hc44) rfl ?_
                refine fr_iload (pc := 100) dX12_row_100 rfl rfl ?_
                refine fr_istore (ls2 := [(2, 142), (0, l1), (2, 151), (0, l3), (0, gI M 142 18), (0, r39), (0, gI M 142 18)]) (pc := 102) dX12_row_102 rfl (Nat.le_of_ble_eq_true rfl) rfl ?_
                refine fr_goto (tg := 6) (pc := 104) dX12_row_104 rfl ?_
                exact hq sc d hd (0, gI M 142 18) pm_t0
              · refine fr_aload_n (pc := 69) dX12_row_69 rfl rfl ?_
                refine fr_bipush (pc := 70) dX12_row_70 (by decide) ?_
                refine fr_iload_n (pc := 72) dX12_row_72 rfl rfl ?_
                refine fr_iadd (z := w32 (100 + l1)) (pc := 73) dX12_row_73 rfl ?_
                refine fr_iload (pc := 74) dX12_row_74 rfl rfl ?_
                obtain ⟨hb46, hq⟩ := hq
                refine fr_iastore (a := 151) (pc := 76) dX12_row_76 rfl s0_151 hb46 nr_151 ?_
                refine fr_iload (pc := 77) dX12_row_77 rfl rfl ?_
                refine fr_ifcF (tg := 100) (pc := 79) dX12_row_79 (decide_eq_false hc43) rfl ?_
                refine fr_iload (pc := 82) dX12_row_82 rfl rfl ?_
                refine fr_iconst (pc := 84) dX12_row_84 (by decide) ?_
                refine fr_icmT (tg := 100) (pc := 85) dX12_row_85 (decide_eq_true hc44) rfl ?_
                refine fr_iload (pc := 100) dX12_row_100 rfl rfl ?_
                refine fr_istore (ls2 := [(2, 142), (0, l1), (2, 151), (0, l3), (0, gI M 142 18), (0, r39), (0, gI M 142 18)]) (pc := 102) dX12_row_102 rfl (Nat.le_of_ble_eq_true rfl) rfl ?_
                refine fr_goto (tg := 6) (pc := 104) dX12_row_104 rfl ?_
                exact hq sc d hd (0, gI M 142 18) pm_t0
            · refine fr_iload (pc := 77) dX12_row_77 rfl rfl ?_
              refine fr_ifcF (tg := 100) (pc := 79) dX12_row_79 (decide_eq_false hc43) rfl ?_
              refine fr_iload (pc := 82) dX12_row_82 rfl rfl ?_
              refine fr_iconst (pc := 84) dX12_row_84 (by decide) ?_
              refine fr_icmF (tg := 100) (pc := 85) dX12_row_85 (decide_eq_false hc44) rfl ?_
              refine fr_aload_n (pc := 88) dX12_row_88 rfl rfl ?_
              refine fr_getr (a := 142) (pc := 89) dX12_row_89 rfl pf_12_38 s0_142 rfl rf_142_17 ?_
              refine fr_bipush (pc := 92) dX12_row_92 (by decide) ?_
              refine fr_iload (pc := 94) dX12_row_94 rfl rfl ?_
              refine fr_iadd (z := w32 (100 + l4)) (pc := 96) dX12_row_96 rfl ?_
              refine fr_iload (pc := 97) dX12_row_97 rfl rfl ?_
              obtain ⟨hb47, hq⟩ := hq
              refine fr_iastore (a := 152) (pc := 99) dX12_row_99 rfl s0_152 hb47 nr_152 ?_
              refine fr_iload (pc := 100) dX12_row_100 rfl rfl ?_
              refine fr_istore (ls2 := [(2, 142), (0, l1), (2, 151), (0, l3), (0, gI M 142 18), (0, r39), (0, gI M 142 18)]) (pc := 102) dX12_row_102 rfl (Nat.le_of_ble_eq_true rfl) rfl ?_
              refine fr_goto (tg := 6) (pc := 104) dX12_row_104 rfl ?_
              exact hq sc d hd (0, gI M 142 18) pm_t0
theorem k12_statement_r {c : Nat} {h : Nat} {a1 : Int} {M : pm_M} {K : Int → pm_M → Prop} (hh : 151 ≤ h) (hq : (∃ c3 c4 : Nat, c3 + c4 ≤ c ∧ k12_isWord c3 105 102 0 0 0 0 M (fun r2 M1 => (∃ c8 c9 : Nat, c8 + c9 ≤ c4 ∧ k12_isWord c8 119 104 105 108 101 0 M1 (fun r7 M6 => (∃ c13 c14 : Nat, c13 + c14 ≤ c9 ∧ k12_isWord c13 114 101 116 117 114 110 M6 (fun r12 M11 => k12_variable M11 (fun r17 M16 => (if r2 = 0 then (if r7 = 0 then (if r12 = 0 then (if r17 = (-1) then (if gI M16 142 8 = 0 then K 0 (upI M16 142 8 (w32 ((w32 (8 * (gI M16 142 4))) + 1))) else K 0 (upI M16 142 8 (gI M16 142 8))) else k12_statement_78 c14 h a1 r2 r7 r12 r17 M16 K) else k12_statement_78 c14 h a1 r2 r7 r12 r17 M16 K) else k12_statement_78 c14 h a1 r2 r7 r12 r17 M16 K) else k12_statement_78 c14 h a1 r2 r7 r12 r17 M16 K))))))))) : k12_statement c h a1 M K := by
  intro sc d hd
  refine fr_aload_n (pc := 0) dX12_statement_0 rfl rfl ?_
  refine fr_bipush (pc := 1) dX12_statement_1 (by decide) ?_
  refine fr_bipush (pc := 3) dX12_statement_3 (by decide) ?_
  refine fr_iconst (pc := 5) dX12_statement_5 (by decide) ?_
  refine fr_iconst (pc := 6) dX12_statement_6 (by decide) ?_
  refine fr_iconst (pc := 7) dX12_statement_7 (by decide) ?_
  refine fr_iconst (pc := 8) dX12_statement_8 (by decide) ?_
  obtain ⟨c3, c4, hcc5, hq⟩ := hq
  refine fr_inVI (a := 142) (as := [(0, 105), (0, 102), (0, 0), (0, 0), (0, 0), (0, 0)]) (rest := []) (ls' := [(2, 142), (0, 105), (0, 102), (0, 0), (0, 0), (0, 0), (0, 0), (9, 0), (9, 0), (9, 0)]) (c1 := c3) (c2 := c4) (pc := 9) dX12_statement_9 pl_12_224 rfl ⟨Nat.le_of_ble_eq_true rfl, Nat.le_of_ble_eq_true rfl⟩ rfl rfl rfl s0_142 (Nat.le_of_ble_eq_true rfl) (by omega) rfl rfl hcc5 (hq sc _ (by omega)) (fun r2 M1 hq => ?_)
  refine fr_istore_n (ls2 := [(2, 142), (0, a1), (0, r2), (9, 0), (9, 0), (9, 0), (9, 0), (9, 0)]) (pc := 12) dX12_statement_12 rfl (Nat.le_of_ble_eq_true rfl) rfl ?_
  refine fr_aload_n (pc := 13) dX12_statement_13 rfl rfl ?_
  refine fr_bipush (pc := 14) dX12_statement_14 (by decide) ?_
  refine fr_bipush (pc := 16) dX12_statement_16 (by decide) ?_
  refine fr_bipush (pc := 18) dX12_statement_18 (by decide) ?_
  refine fr_bipush (pc := 20) dX12_statement_20 (by decide) ?_
  refine fr_bipush (pc := 22) dX12_statement_22 (by decide) ?_
  refine fr_iconst (pc := 24) dX12_statement_24 (by decide) ?_
  obtain ⟨c8, c9, hcc10, hq⟩ := hq
  refine fr_inVI (a := 142) (as := [(0, 119), (0, 104), (0, 105), (0, 108), (0, 101), (0, 0)]) (rest := []) (ls' := [(2, 142), (0, 119), (0, 104), (0, 105), (0, 108), (0, 101), (0, 0), (9, 0), (9, 0), (9, 0)]) (c1 := c8) (c2 := c9) (pc := 25) dX12_statement_25 pl_12_224 rfl ⟨Nat.le_of_ble_eq_true rfl, Nat.le_of_ble_eq_true rfl⟩ rfl rfl rfl s0_142 (Nat.le_of_ble_eq_true rfl) (by omega) rfl rfl hcc10 (hq sc _ (by omega)) (fun r7 M6 hq => ?_)
  refine fr_istore_n (ls2 := [(2, 142), (0, a1), (0, r2), (0, r7), (9, 0), (9, 0), (9, 0), (9, 0)]) (pc := 28) dX12_statement_28 rfl (Nat.le_of_ble_eq_true rfl) rfl ?_
  refine fr_aload_n (pc := 29) dX12_statement_29 rfl rfl ?_
  refine fr_bipush (pc := 30) dX12_statement_30 (by decide) ?_
  refine fr_bipush (pc := 32) dX12_statement_32 (by decide) ?_
  refine fr_bipush (pc := 34) dX12_statement_34 (by decide) ?_
  refine fr_bipush (pc := 36) dX12_statement_36 (by decide) ?_
  refine fr_bipush (pc := 38) dX12_statement_38 (by decide) ?_
  refine fr_bipush (pc := 40) dX12_statement_40 (by decide) ?_
  obtain ⟨c13, c14, hcc15, hq⟩ := hq
  refine fr_inVI (a := 142) (as := [(0, 114), (0, 101), (0, 116), (0, 117), (0, 114), (0, 110)]) (rest := []) (ls' := [(2, 142), (0, 114), (0, 101), (0, 116), (0, 117), (0, 114), (0, 110), (9, 0), (9, 0), (9, 0)]) (c1 := c13) (c2 := c14) (pc := 42) dX12_statement_42 pl_12_224 rfl ⟨Nat.le_of_ble_eq_true rfl, Nat.le_of_ble_eq_true rfl⟩ rfl rfl rfl s0_142 (Nat.le_of_ble_eq_true rfl) (by omega) rfl rfl hcc15 (hq sc _ (by omega)) (fun r12 M11 hq => ?_)
  refine fr_istore (ls2 := [(2, 142), (0, a1), (0, r2), (0, r7), (0, r12), (9, 0), (9, 0), (9, 0)]) (pc := 45) dX12_statement_45 rfl (Nat.le_of_ble_eq_true rfl) rfl ?_
  refine fr_aload_n (pc := 47) dX12_statement_47 rfl rfl ?_
  refine fr_inVI (a := 142) (as := []) (rest := []) (ls' := [(2, 142), (9, 0)]) (c1 := 0) (c2 := c14) (pc := 48) dX12_statement_48 pl_12_177 rfl ⟨Nat.le_of_ble_eq_true rfl, Nat.le_of_ble_eq_true rfl⟩ rfl rfl rfl s0_142 (Nat.le_of_ble_eq_true rfl) (by omega) rfl rfl (pm_zc _) (hq sc _ (by omega)) (fun r17 M16 hq => ?_)
  refine fr_istore (ls2 := [(2, 142), (0, a1), (0, r2), (0, r7), (0, r12), (0, r17), (9, 0), (9, 0)]) (pc := 51) dX12_statement_51 rfl (Nat.le_of_ble_eq_true rfl) rfl ?_
  refine fr_iload_n (pc := 53) dX12_statement_53 rfl rfl ?_
  refine fr_ifc_ne (tg := 78) (pc := 54) dX12_statement_54 rfl hq (fun hc18 hq => ?_) (fun hc18 hq => ?_)
  · refine fr_iload_n (pc := 57) dX12_statement_57 rfl rfl ?_
    refine fr_ifc_ne (tg := 78) (pc := 58) dX12_statement_58 rfl hq (fun hc19 hq => ?_) (fun hc19 hq => ?_)
    · refine fr_iload (pc := 61) dX12_statement_61 rfl rfl ?_
      refine fr_ifc_ne (tg := 78) (pc := 63) dX12_statement_63 rfl hq (fun hc20 hq => ?_) (fun hc20 hq => ?_)
      · refine fr_iload (pc := 66) dX12_statement_66 rfl rfl ?_
        refine fr_iconst (pc := 68) dX12_statement_68 (by decide) ?_
        refine fr_icm_ne (tg := 78) (pc := 69) dX12_statement_69 rfl hq (fun hc21 hq => ?_) (fun hc21 hq => ?_)
        · refine fr_aload_n (pc := 72) dX12_statement_72 rfl rfl ?_
          refine fr_iconst (pc := 73) dX12_statement_73 (by decide) ?_
          refine fr_inVI (a := 142) (as := [(0, 1)]) (rest := []) (ls' := [(2, 142), (0, 1)]) (c1 := 0) (c2 := c14) (pc := 74) dX12_statement_74 pl_12_164 rfl ⟨Nat.le_of_ble_eq_true rfl, Nat.le_of_ble_eq_true rfl⟩ rfl rfl rfl s0_142 (Nat.le_of_ble_eq_true rfl) (by omega) rfl rfl (pm_zc _) ?_ (fun y M' h => h)
          refine fr_aload_n (pc := 0) dX12_bad_0 rfl rfl ?_
          refine fr_aload_n (pc := 1) dX12_bad_1 rfl rfl ?_
          refine fr_getf (a := 142) (i := 8) (v := gI M16 142 8) (t := 0) (pc := 2) dX12_bad_2 rfl pf_12_158 rfl s0_142 rfl rfl ?_
          refine fr_ifc_ne (tg := 20) (pc := 5) dX12_bad_5 rfl hq (fun hc22 hq => ?_) (fun hc22 hq => ?_)
          · refine fr_bipush (pc := 8) dX12_bad_8 (by decide) ?_
            refine fr_aload_n (pc := 10) dX12_bad_10 rfl rfl ?_
            refine fr_getf (a := 142) (i := 4) (v := gI M16 142 4) (t := 0) (pc := 11) dX12_bad_11 rfl pf_12_141 rfl s0_142 rfl rfl ?_
            refine fr_imul (z := w32 (8 * (gI M16 142 4))) (pc := 14) dX12_bad_14 rfl ?_
            refine fr_iload_n (pc := 15) dX12_bad_15 rfl rfl ?_
            refine fr_iadd (z := w32 ((w32 (8 * (gI M16 142 4))) + 1)) (pc := 16) dX12_bad_16 rfl ?_
            refine fr_goto (tg := 24) (pc := 17) dX12_bad_17 rfl ?_
            refine fr_put (a := 142) (i := 8) (pc := 24) dX12_bad_24 rfl pf_12_158 rfl s0_142 rfl rfl nf_142_8 rfl ?_
            refine fr_iconst (pc := 27) dX12_bad_27 (by decide) ?_
            refine fr_iret (pc := 28) dX12_bad_28 (Or.inr (Or.inl ⟨rfl, Or.inl rfl⟩)) ?_
            exact fr_iret (pc := 77) dX12_statement_77 (Or.inr (Or.inl ⟨rfl, Or.inl rfl⟩)) hq
          · refine fr_aload_n (pc := 20) dX12_bad_20 rfl rfl ?_
            refine fr_getf (a := 142) (i := 8) (v := gI M16 142 8) (t := 0) (pc := 21) dX12_bad_21 rfl pf_12_158 rfl s0_142 rfl rfl ?_
            refine fr_put (a := 142) (i := 8) (pc := 24) dX12_bad_24 rfl pf_12_158 rfl s0_142 rfl rfl nf_142_8 rfl ?_
            refine fr_iconst (pc := 27) dX12_bad_27 (by decide) ?_
            refine fr_iret (pc := 28) dX12_bad_28 (Or.inr (Or.inl ⟨rfl, Or.inl rfl⟩)) ?_
            exact fr_iret (pc := 77) dX12_statement_77 (Or.inr (Or.inl ⟨rfl, Or.inl rfl⟩)) hq
        · exact hq sc d hd (9, 0) pm_t9 (9, 0) pm_t9
      · exact hq sc d hd (9, 0) pm_t9 (9, 0) pm_t9
    · exact hq sc d hd (9, 0) pm_t9 (9, 0) pm_t9
  · exact hq sc d hd (9, 0) pm_t9 (9, 0) pm_t9
theorem k12_statement_78_r {c : Nat} {h : Nat} {l1 l2 l3 l4 l5 : Int} {M : pm_M} {K : Int → pm_M → Prop} (hh : 151 ≤ h) (hq : (if gI M 142 19 = 20 then (if gI M 142 8 = 0 then K 0 (upI M 142 8 (w32 ((w32 (8 * (gI M 142 4))) + 2))) else K 0 (upI M 142 8 (gI M 142 8))) else (if l2 = 0 then (if l3 = 0 then (if l4 = 0 then (if l5 = (-1) then k12_adds 0 (-100) l1 (upI M 142 19 (w32 ((gI M 142 19) + 1))) (fun r8 M7 => k12_go M7 (fun M9 => k12_statement_170 c h l2 l4 l5 r8 M9 K)) else k12_adds 0 l5 l1 (upI M 142 19 (w32 ((gI M 142 19) + 1))) (fun r12 M11 => k12_go M11 (fun M13 => k12_sign 61 M13 (fun r16 M15 => (if r16 = 0 then K 0 M15 else k12_statement_170 c h l2 l4 l5 r12 M15 K))))) else (if l5 = (-1) then k12_adds 3 (-100) l1 (upI M 142 19 (w32 ((gI M 142 19) + 1))) (fun r20 M19 => k12_go M19 (fun M21 => k12_statement_170 c h l2 l4 l5 r20 M21 K)) else k12_adds 3 l5 l1 (upI M 142 19 (w32 ((gI M 142 19) + 1))) (fun r24 M23 => k12_go M23 (fun M25 => k12_sign 61 M25 (fun r28 M27 => (if r28 = 0 then K 0 M27 else k12_statement_170 c h l2 l4 l5 r24 M27 K)))))) else (if l5 = (-1) then k12_adds 2 (-100) l1 (upI M 142 19 (w32 ((gI M 142 19) + 1))) (fun r32 M31 => k12_go M31 (fun M33 => k12_statement_170 c h l2 l4 l5 r32 M33 K)) else k12_adds 2 l5 l1 (upI M 142 19 (w32 ((gI M 142 19) + 1))) (fun r36 M35 => k12_go M35 (fun M37 => k12_sign 61 M37 (fun r40 M39 => (if r40 = 0 then K 0 M39 else k12_statement_170 c h l2 l4 l5 r36 M39 K)))))) else (if l5 = (-1) then k12_adds 1 (-100) l1 (upI M 142 19 (w32 ((gI M 142 19) + 1))) (fun r44 M43 => k12_go M43 (fun M45 => k12_statement_170 c h l2 l4 l5 r44 M45 K)) else k12_adds 1 l5 l1 (upI M 142 19 (w32 ((gI M 142 19) + 1))) (fun r48 M47 => k12_go M47 (fun M49 => k12_sign 61 M49 (fun r52 M51 => (if r52 = 0 then K 0 M51 else k12_statement_170 c h l2 l4 l5 r48 M51 K)))))))) : k12_statement_78 c h l1 l2 l3 l4 l5 M K := by
  intro sc d hd z6 hz6 z7 hz7
  refine fr_aload_n (pc := 78) dX12_statement_78 rfl rfl ?_
  refine fr_getf (a := 142) (i := 19) (v := gI M 142 19) (t := 0) (pc := 79) dX12_statement_79 rfl pf_12_228 rfl s0_142 rfl rfl ?_
  refine fr_bipush (pc := 82) dX12_statement_82 (by decide) ?_
  refine fr_icm_ne (tg := 93) (pc := 84) dX12_statement_84 rfl hq (fun hc1 hq => ?_) (fun hc1 hq => ?_)
  · refine fr_aload_n (pc := 87) dX12_statement_87 rfl rfl ?_
    refine fr_iconst (pc := 88) dX12_statement_88 (by decide) ?_
    refine fr_inVI (a := 142) (as := [(0, 2)]) (rest := []) (ls' := [(2, 142), (0, 2)]) (c1 := 0) (c2 := c) (pc := 89) dX12_statement_89 pl_12_164 rfl ⟨Nat.le_of_ble_eq_true rfl, Nat.le_of_ble_eq_true rfl⟩ rfl rfl rfl s0_142 (Nat.le_of_ble_eq_true rfl) (by omega) rfl rfl (pm_zc _) ?_ (fun y M' h => h)
    refine fr_aload_n (pc := 0) dX12_bad_0 rfl rfl ?_
    refine fr_aload_n (pc := 1) dX12_bad_1 rfl rfl ?_
    refine fr_getf (a := 142) (i := 8) (v := gI M 142 8) (t := 0) (pc := 2) dX12_bad_2 rfl pf_12_158 rfl s0_142 rfl rfl ?_
    refine fr_ifc_ne (tg := 20) (pc := 5) dX12_bad_5 rfl hq (fun hc2 hq => ?_) (fun hc2 hq => ?_)
    · refine fr_bipush (pc := 8) dX12_bad_8 (by decide) ?_
      refine fr_aload_n (pc := 10) dX12_bad_10 rfl rfl ?_
      refine fr_getf (a := 142) (i := 4) (v := gI M 142 4) (t := 0) (pc := 11) dX12_bad_11 rfl pf_12_141 rfl s0_142 rfl rfl ?_
      refine fr_imul (z := w32 (8 * (gI M 142 4))) (pc := 14) dX12_bad_14 rfl ?_
      refine fr_iload_n (pc := 15) dX12_bad_15 rfl rfl ?_
      refine fr_iadd (z := w32 ((w32 (8 * (gI M 142 4))) + 2)) (pc := 16) dX12_bad_16 rfl ?_
      refine fr_goto (tg := 24) (pc := 17) dX12_bad_17 rfl ?_
      refine fr_put (a := 142) (i := 8) (pc := 24) dX12_bad_24 rfl pf_12_158 rfl s0_142 rfl rfl nf_142_8 rfl ?_
      refine fr_iconst (pc := 27) dX12_bad_27 (by decide) ?_
      refine fr_iret (pc := 28) dX12_bad_28 (Or.inr (Or.inl ⟨rfl, Or.inl rfl⟩)) ?_
      exact fr_iret (pc := 92) dX12_statement_92 (Or.inr (Or.inl ⟨rfl, Or.inl rfl⟩)) hq
    · refine fr_aload_n (pc := 20) dX12_bad_20 rfl rfl ?_
      refine fr_getf (a := 142) (i := 8) (v := gI M 142 8) (t := 0) (pc := 21) dX12_bad_21 rfl pf_12_158 rfl s0_142 rfl rfl ?_
      refine fr_put (a := 142) (i := 8) (pc := 24) dX12_bad_24 rfl pf_12_158 rfl s0_142 rfl rfl nf_142_8 rfl ?_
      refine fr_iconst (pc := 27) dX12_bad_27 (by decide) ?_
      refine fr_iret (pc := 28) dX12_bad_28 (Or.inr (Or.inl ⟨rfl, Or.inl rfl⟩)) ?_
      exact fr_iret (pc := 92) dX12_statement_92 (Or.inr (Or.inl ⟨rfl, Or.inl rfl⟩)) hq
  · refine fr_aload_n (pc := 93) dX12_statement_93 rfl rfl ?_
    refine fr_dup (pc := 94) dX12_statement_94 pm_t2 ?_
    refine fr_getf (a := 142) (i := 19) (v := gI M 142 19) (t := 0) (pc := 95) dX12_statement_95 rfl pf_12_228 rfl s0_142 rfl rfl ?_
    refine fr_iconst (pc := 98) dX12_statement_98 (by decide) ?_
    refine fr_iadd (z := w32 ((gI M 142 19) + 1)) (pc := 99) dX12_statement_99 rfl ?_
    refine fr_put (a := 142) (i := 19) (pc := 100) dX12_statement_100 rfl pf_12_228 rfl s0_142 rfl rfl nf_142_19 rfl ?_
    refine fr_aload_n (pc := 103) dX12_statement_103 rfl rfl ?_
    refine fr_iload_n (pc := 104) dX12_statement_104 rfl rfl ?_
    refine fr_ifc_eq (tg := 112) (pc := 105) dX12_statement_105 rfl hq (fun hc3 hq => ?_) (fun hc3 hq => ?_)
    · refine fr_iload_n (pc := 112) dX12_statement_112 rfl rfl ?_
      refine fr_ifc_eq (tg := 120) (pc := 113) dX12_statement_113 rfl hq (fun hc4 hq => ?_) (fun hc4 hq => ?_)
      · refine fr_iload (pc := 120) dX12_statement_120 rfl rfl ?_
        refine fr_ifc_eq (tg := 129) (pc := 122) dX12_statement_122 rfl hq (fun hc5 hq => ?_) (fun hc5 hq => ?_)
        · refine fr_iconst (pc := 129) dX12_statement_129 (by decide) ?_
          refine fr_iload (pc := 130) dX12_statement_130 rfl rfl ?_
          refine fr_iconst (pc := 132) dX12_statement_132 (by decide) ?_
          refine fr_icm_ne (tg := 141) (pc := 133) dX12_statement_133 rfl hq (fun hc6 hq => ?_) (fun hc6 hq => ?_)
          · refine fr_bipush (pc := 136) dX12_statement_136 (by decide) ?_
            refine fr_goto (tg := 143) (pc := 138) dX12_statement_138 rfl ?_
            refine fr_iload_n (pc := 143) dX12_statement_143 rfl rfl ?_
            refine fr_inVI (a := 142) (as := [(0, 0), (0, (-100)), (0, l1)]) (rest := []) (ls' := [(2, 142), (0, 0), (0, (-100)), (0, l1), (9, 0)]) (c1 := 0) (c2 := c) (pc := 144) dX12_statement_144 pl_12_173 rfl ⟨Nat.le_of_ble_eq_true rfl, Nat.le_of_ble_eq_true rfl⟩ rfl rfl rfl s0_142 (Nat.le_of_ble_eq_true rfl) (by omega) rfl rfl (pm_zc _) (hq sc _ (by omega)) (fun r8 M7 hq => ?_)
            refine fr_istore (ls2 := [(2, 142), (0, l1), (0, l2), (0, l3), (0, l4), (0, l5), (0, r8), z7]) (pc := 147) dX12_statement_147 rfl (Nat.le_of_ble_eq_true rfl) rfl ?_
            refine fr_aload_n (pc := 149) dX12_statement_149 rfl rfl ?_
            refine fr_inVV (a := 142) (as := []) (rest := []) (ls' := [(2, 142), (9, 0)]) (c1 := 0) (c2 := c) (pc := 150) dX12_statement_150 pl_12_167 rfl ⟨Nat.le_of_ble_eq_true rfl, Nat.le_of_ble_eq_true rfl⟩ rfl rfl rfl s0_142 (Nat.le_of_ble_eq_true rfl) (by omega) rfl rfl (pm_zc _) (hq sc _ (by omega)) (fun M9 hq => ?_)
            refine fr_iload (pc := 153) dX12_statement_153 rfl rfl ?_
            refine fr_iconst (pc := 155) dX12_statement_155 (by decide) ?_
            refine fr_icmT (tg := 170) (pc := 156) dX12_statement_156 (decide_eq_true hc6) rfl ?_
            exact hq sc d hd (0, l1) pm_t0 (0, l3) pm_t0 z7 hz7
          · refine fr_iload (pc := 141) dX12_statement_141 rfl rfl ?_
            refine fr_iload_n (pc := 143) dX12_statement_143 rfl rfl ?_
            refine fr_inVI (a := 142) (as := [(0, 0), (0, l5), (0, l1)]) (rest := []) (ls' := [(2, 142), (0, 0), (0, l5), (0, l1), (9, 0)]) (c1 := 0) (c2 := c) (pc := 144) dX12_statement_144 pl_12_173 rfl ⟨Nat.le_of_ble_eq_true rfl, Nat.le_of_ble_eq_true rfl⟩ rfl rfl rfl s0_142 (Nat.le_of_ble_eq_true rfl) (by omega) rfl rfl (pm_zc _) (hq sc _ (by omega)) (fun r12 M11 hq => ?_)
            refine fr_istore (ls2 := [(2, 142), (0, l1), (0, l2), (0, l3), (0, l4), (0, l5), (0, r12), z7]) (pc := 147) dX12_statement_147 rfl (Nat.le_of_ble_eq_true rfl) rfl ?_
            refine fr_aload_n (pc := 149) dX12_statement_149 rfl rfl ?_
            refine fr_inVV (a := 142) (as := []) (rest := []) (ls' := [(2, 142), (9, 0)]) (c1 := 0) (c2 := c) (pc := 150) dX12_statement_150 pl_12_167 rfl ⟨Nat.le_of_ble_eq_true rfl, Nat.le_of_ble_eq_true rfl⟩ rfl rfl rfl s0_142 (Nat.le_of_ble_eq_true rfl) (by omega) rfl rfl (pm_zc _) (hq sc _ (by omega)) (fun M13 hq => ?_)
            refine fr_iload (pc := 153) dX12_statement_153 rfl rfl ?_
            refine fr_iconst (pc := 155) dX12_statement_155 (by decide) ?_
            refine fr_icmF (tg := 170) (pc := 156) dX12_statement_156 (decide_eq_false hc6) rfl ?_
            refine fr_aload_n (pc := 159) dX12_statement_159 rfl rfl ?_
            refine fr_bipush (pc := 160) dX12_statement_160 (by decide) ?_
            refine fr_inVI (a := 142) (as := [(0, 61)]) (rest := []) (ls' := [(2, 142), (0, 61)]) (c1 := 0) (c2 := c) (pc := 162) dX12_statement_162 pl_12_190 rfl ⟨Nat.le_of_ble_eq_true rfl, Nat.le_of_ble_eq_true rfl⟩ rfl rfl rfl s0_142 (Nat.le_of_ble_eq_true rfl) (by omega) rfl rfl (pm_zc _) (hq sc _ (by omega)) (fun r16 M15 hq => ?_)
            refine fr_ifc_ne (tg := 170) (pc := 165) dX12_statement_165 rfl hq (fun hc17 hq => ?_) (fun hc17 hq => ?_)
            · refine fr_iconst (pc := 168) dX12_statement_168 (by decide) ?_
              exact fr_iret (pc := 169) dX12_statement_169 (Or.inr (Or.inl ⟨rfl, Or.inl rfl⟩)) hq
            · exact hq sc d hd (0, l1) pm_t0 (0, l3) pm_t0 z7 hz7
        · refine fr_iconst (pc := 125) dX12_statement_125 (by decide) ?_
          refine fr_goto (tg := 130) (pc := 126) dX12_statement_126 rfl ?_
          refine fr_iload (pc := 130) dX12_statement_130 rfl rfl ?_
          refine fr_iconst (pc := 132) dX12_statement_132 (by decide) ?_
          refine fr_icm_ne (tg := 141) (pc := 133) dX12_statement_133 rfl hq (fun hc18 hq => ?_) (fun hc18 hq => ?_)
          · refine fr_bipush (pc := 136) dX12_statement_136 (by decide) ?_
            refine fr_goto (tg := 143) (pc := 138) dX12_statement_138 rfl ?_
            refine fr_iload_n (pc := 143) dX12_statement_143 rfl rfl ?_
            refine fr_inVI (a := 142) (as := [(0, 3), (0, (-100)), (0, l1)]) (rest := []) (ls' := [(2, 142), (0, 3), (0, (-100)), (0, l1), (9, 0)]) (c1 := 0) (c2 := c) (pc := 144) dX12_statement_144 pl_12_173 rfl ⟨Nat.le_of_ble_eq_true rfl, Nat.le_of_ble_eq_true rfl⟩ rfl rfl rfl s0_142 (Nat.le_of_ble_eq_true rfl) (by omega) rfl rfl (pm_zc _) (hq sc _ (by omega)) (fun r20 M19 hq => ?_)
            refine fr_istore (ls2 := [(2, 142), (0, l1), (0, l2), (0, l3), (0, l4), (0, l5), (0, r20), z7]) (pc := 147) dX12_statement_147 rfl (Nat.le_of_ble_eq_true rfl) rfl ?_
            refine fr_aload_n (pc := 149) dX12_statement_149 rfl rfl ?_
            refine fr_inVV (a := 142) (as := []) (rest := []) (ls' := [(2, 142), (9, 0)]) (c1 := 0) (c2 := c) (pc := 150) dX12_statement_150 pl_12_167 rfl ⟨Nat.le_of_ble_eq_true rfl, Nat.le_of_ble_eq_true rfl⟩ rfl rfl rfl s0_142 (Nat.le_of_ble_eq_true rfl) (by omega) rfl rfl (pm_zc _) (hq sc _ (by omega)) (fun M21 hq => ?_)
            refine fr_iload (pc := 153) dX12_statement_153 rfl rfl ?_
            refine fr_iconst (pc := 155) dX12_statement_155 (by decide) ?_
            refine fr_icmT (tg := 170) (pc := 156) dX12_statement_156 (decide_eq_true hc18) rfl ?_
            exact hq sc d hd (0, l1) pm_t0 (0, l3) pm_t0 z7 hz7
          · refine fr_iload (pc := 141) dX12_statement_141 rfl rfl ?_
            refine fr_iload_n (pc := 143) dX12_statement_143 rfl rfl ?_
            refine fr_inVI (a := 142) (as := [(0, 3), (0, l5), (0, l1)]) (rest := []) (ls' := [(2, 142), (0, 3), (0, l5), (0, l1), (9, 0)]) (c1 := 0) (c2 := c) (pc := 144) dX12_statement_144 pl_12_173 rfl ⟨Nat.le_of_ble_eq_true rfl, Nat.le_of_ble_eq_true rfl⟩ rfl rfl rfl s0_142 (Nat.le_of_ble_eq_true rfl) (by omega) rfl rfl (pm_zc _) (hq sc _ (by omega)) (fun r24 M23 hq => ?_)
            refine fr_istore (ls2 := [(2, 142), (0, l1), (0, l2), (0, l3), (0, l4), (0, l5), (0, r24), z7]) (pc := 147) dX12_statement_147 rfl (Nat.le_of_ble_eq_true rfl) rfl ?_
            refine fr_aload_n (pc := 149) dX12_statement_149 rfl rfl ?_
            refine fr_inVV (a := 142) (as := []) (rest := []) (ls' := [(2, 142), (9, 0)]) (c1 := 0) (c2 := c) (pc := 150) dX12_statement_150 pl_12_167 rfl ⟨Nat.le_of_ble_eq_true rfl, Nat.le_of_ble_eq_true rfl⟩ rfl rfl rfl s0_142 (Nat.le_of_ble_eq_true rfl) (by omega) rfl rfl (pm_zc _) (hq sc _ (by omega)) (fun M25 hq => ?_)
            refine fr_iload (pc := 153) dX12_statement_153 rfl rfl ?_
            refine fr_iconst (pc := 155) dX12_statement_155 (by decide) ?_
            refine fr_icmF (tg := 170) (pc := 156) dX12_statement_156 (decide_eq_false hc18) rfl ?_
            refine fr_aload_n (pc := 159) dX12_statement_159 rfl rfl ?_
            refine fr_bipush (pc := 160) dX12_statement_160 (by decide) ?_
            refine fr_inVI (a := 142) (as := [(0, 61)]) (rest := []) (ls' := [(2, 142), (0, 61)]) (c1 := 0) (c2 := c) (pc := 162) dX12_statement_162 pl_12_190 rfl ⟨Nat.le_of_ble_eq_true rfl, Nat.le_of_ble_eq_true rfl⟩ rfl rfl rfl s0_142 (Nat.le_of_ble_eq_true rfl) (by omega) rfl rfl (pm_zc _) (hq sc _ (by omega)) (fun r28 M27 hq => ?_)
            refine fr_ifc_ne (tg := 170) (pc := 165) dX12_statement_165 rfl hq (fun hc29 hq => ?_) (fun hc29 hq => ?_)
            · refine fr_iconst (pc := 168) dX12_statement_168 (by decide) ?_
              exact fr_iret (pc := 169) dX12_statement_169 (Or.inr (Or.inl ⟨rfl, Or.inl rfl⟩)) hq
            · exact hq sc d hd (0, l1) pm_t0 (0, l3) pm_t0 z7 hz7
      · refine fr_iconst (pc := 116) dX12_statement_116 (by decide) ?_
        refine fr_goto (tg := 130) (pc := 117) dX12_statement_117 rfl ?_
        refine fr_iload (pc := 130) dX12_statement_130 rfl rfl ?_
        refine fr_iconst (pc := 132) dX12_statement_132 (by decide) ?_
        refine fr_icm_ne (tg := 141) (pc := 133) dX12_statement_133 rfl hq (fun hc30 hq => ?_) (fun hc30 hq => ?_)
        · refine fr_bipush (pc := 136) dX12_statement_136 (by decide) ?_
          refine fr_goto (tg := 143) (pc := 138) dX12_statement_138 rfl ?_
          refine fr_iload_n (pc := 143) dX12_statement_143 rfl rfl ?_
          refine fr_inVI (a := 142) (as := [(0, 2), (0, (-100)), (0, l1)]) (rest := []) (ls' := [(2, 142), (0, 2), (0, (-100)), (0, l1), (9, 0)]) (c1 := 0) (c2 := c) (pc := 144) dX12_statement_144 pl_12_173 rfl ⟨Nat.le_of_ble_eq_true rfl, Nat.le_of_ble_eq_true rfl⟩ rfl rfl rfl s0_142 (Nat.le_of_ble_eq_true rfl) (by omega) rfl rfl (pm_zc _) (hq sc _ (by omega)) (fun r32 M31 hq => ?_)
          refine fr_istore (ls2 := [(2, 142), (0, l1), (0, l2), (0, l3), (0, l4), (0, l5), (0, r32), z7]) (pc := 147) dX12_statement_147 rfl (Nat.le_of_ble_eq_true rfl) rfl ?_
          refine fr_aload_n (pc := 149) dX12_statement_149 rfl rfl ?_
          refine fr_inVV (a := 142) (as := []) (rest := []) (ls' := [(2, 142), (9, 0)]) (c1 := 0) (c2 := c) (pc := 150) dX12_statement_150 pl_12_167 rfl ⟨Nat.le_of_ble_eq_true rfl, Nat.le_of_ble_eq_true rfl⟩ rfl rfl rfl s0_142 (Nat.le_of_ble_eq_true rfl) (by omega) rfl rfl (pm_zc _) (hq sc _ (by omega)) (fun M33 hq => ?_)
          refine fr_iload (pc := 153) dX12_statement_153 rfl rfl ?_
          refine fr_iconst (pc := 155) dX12_statement_155 (by decide) ?_
          refine fr_icmT (tg := 170) (pc := 156) dX12_statement_156 (decide_eq_true hc30) rfl ?_
          exact hq sc d hd (0, l1) pm_t0 (0, l3) pm_t0 z7 hz7
        · refine fr_iload (pc := 141) dX12_statement_141 rfl rfl ?_
          refine fr_iload_n (pc := 143) dX12_statement_143 rfl rfl ?_
          refine fr_inVI (a := 142) (as := [(0, 2), (0, l5), (0, l1)]) (rest := []) (ls' := [(2, 142), (0, 2), (0, l5), (0, l1), (9, 0)]) (c1 := 0) (c2 := c) (pc := 144) dX12_statement_144 pl_12_173 rfl ⟨Nat.le_of_ble_eq_true rfl, Nat.le_of_ble_eq_true rfl⟩ rfl rfl rfl s0_142 (Nat.le_of_ble_eq_true rfl) (by omega) rfl rfl (pm_zc _) (hq sc _ (by omega)) (fun r36 M35 hq => ?_)
          refine fr_istore (ls2 := [(2, 142), (0, l1), (0, l2), (0, l3), (0, l4), (0, l5), (0, r36), z7]) (pc := 147) dX12_statement_147 rfl (Nat.le_of_ble_eq_true rfl) rfl ?_
          refine fr_aload_n (pc := 149) dX12_statement_149 rfl rfl ?_
          refine fr_inVV (a := 142) (as := []) (rest := []) (ls' := [(2, 142), (9, 0)]) (c1 := 0) (c2 := c) (pc := 150) dX12_statement_150 pl_12_167 rfl ⟨Nat.le_of_ble_eq_true rfl, Nat.le_of_ble_eq_true rfl⟩ rfl rfl rfl s0_142 (Nat.le_of_ble_eq_true rfl) (by omega) rfl rfl (pm_zc _) (hq sc _ (by omega)) (fun M37 hq => ?_)
          refine fr_iload (pc := 153) dX12_statement_153 rfl rfl ?_
          refine fr_iconst (pc := 155) dX12_statement_155 (by decide) ?_
          refine fr_icmF (tg := 170) (pc := 156) dX12_statement_156 (decide_eq_false hc30) rfl ?_
          refine fr_aload_n (pc := 159) dX12_statement_159 rfl rfl ?_
          refine fr_bipush (pc := 160) dX12_statement_160 (by decide) ?_
          refine fr_inVI (a := 142) (as := [(0, 61)]) (rest := []) (ls' := [(2, 142), (0, 61)]) (c1 := 0) (c2 := c) (pc := 162) dX12_statement_162 pl_12_190 rfl ⟨Nat.le_of_ble_eq_true rfl, Nat.le_of_ble_eq_true rfl⟩ rfl rfl rfl s0_142 (Nat.le_of_ble_eq_true rfl) (by omega) rfl rfl (pm_zc _) (hq sc _ (by omega)) (fun r40 M39 hq => ?_)
          refine fr_ifc_ne (tg := 170) (pc := 165) dX12_statement_165 rfl hq (fun hc41 hq => ?_) (fun hc41 hq => ?_)
          · refine fr_iconst (pc := 168) dX12_statement_168 (by decide) ?_
            exact fr_iret (pc := 169) dX12_statement_169 (Or.inr (Or.inl ⟨rfl, Or.inl rfl⟩)) hq
          · exact hq sc d hd (0, l1) pm_t0 (0, l3) pm_t0 z7 hz7
    · refine fr_iconst (pc := 108) dX12_statement_108 (by decide) ?_
      refine fr_goto (tg := 130) (pc := 109) dX12_statement_109 rfl ?_
      refine fr_iload (pc := 130) dX12_statement_130 rfl rfl ?_
      refine fr_iconst (pc := 132) dX12_statement_132 (by decide) ?_
      refine fr_icm_ne (tg := 141) (pc := 133) dX12_statement_133 rfl hq (fun hc42 hq => ?_) (fun hc42 hq => ?_)
      · refine fr_bipush (pc := 136) dX12_statement_136 (by decide) ?_
        refine fr_goto (tg := 143) (pc := 138) dX12_statement_138 rfl ?_
        refine fr_iload_n (pc := 143) dX12_statement_143 rfl rfl ?_
        refine fr_inVI (a := 142) (as := [(0, 1), (0, (-100)), (0, l1)]) (rest := []) (ls' := [(2, 142), (0, 1), (0, (-100)), (0, l1), (9, 0)]) (c1 := 0) (c2 := c) (pc := 144) dX12_statement_144 pl_12_173 rfl ⟨Nat.le_of_ble_eq_true rfl, Nat.le_of_ble_eq_true rfl⟩ rfl rfl rfl s0_142 (Nat.le_of_ble_eq_true rfl) (by omega) rfl rfl (pm_zc _) (hq sc _ (by omega)) (fun r44 M43 hq => ?_)
        refine fr_istore (ls2 := [(2, 142), (0, l1), (0, l2), (0, l3), (0, l4), (0, l5), (0, r44), z7]) (pc := 147) dX12_statement_147 rfl (Nat.le_of_ble_eq_true rfl) rfl ?_
        refine fr_aload_n (pc := 149) dX12_statement_149 rfl rfl ?_
        refine fr_inVV (a := 142) (as := []) (rest := []) (ls' := [(2, 142), (9, 0)]) (c1 := 0) (c2 := c) (pc := 150) dX12_statement_150 pl_12_167 rfl ⟨Nat.le_of_ble_eq_true rfl, Nat.le_of_ble_eq_true rfl⟩ rfl rfl rfl s0_142 (Nat.le_of_ble_eq_true rfl) (by omega) rfl rfl (pm_zc _) (hq sc _ (by omega)) (fun M45 hq => ?_)
        refine fr_iload (pc := 153) dX12_statement_153 rfl rfl ?_
        refine fr_iconst (pc := 155) dX12_statement_155 (by decide) ?_
        refine fr_icmT (tg := 170) (pc := 156) dX12_statement_156 (decide_eq_true hc42) rfl ?_
        exact hq sc d hd (0, l1) pm_t0 (0, l3) pm_t0 z7 hz7
      · refine fr_iload (pc := 141) dX12_statement_141 rfl rfl ?_
        refine fr_iload_n (pc := 143) dX12_statement_143 rfl rfl ?_
        refine fr_inVI (a := 142) (as := [(0, 1), (0, l5), (0, l1)]) (rest := []) (ls' := [(2, 142), (0, 1), (0, l5), (0, l1), (9, 0)]) (c1 := 0) (c2 := c) (pc := 144) dX12_statement_144 pl_12_173 rfl ⟨Nat.le_of_ble_eq_true rfl, Nat.le_of_ble_eq_true rfl⟩ rfl rfl rfl s0_142 (Nat.le_of_ble_eq_true rfl) (by omega) rfl rfl (pm_zc _) (hq sc _ (by omega)) (fun r48 M47 hq => ?_)
        refine fr_istore (ls2 := [(2, 142), (0, l1), (0, l2), (0, l3), (0, l4), (0, l5), (0, r48), z7]) (pc := 147) dX12_statement_147 rfl (Nat.le_of_ble_eq_true rfl) rfl ?_
        refine fr_aload_n (pc := 149) dX12_statement_149 rfl rfl ?_
        refine fr_inVV (a := 142) (as := []) (rest := []) (ls' := [(2, 142), (9, 0)]) (c1 := 0) (c2 := c) (pc := 150) dX12_statement_150 pl_12_167 rfl ⟨Nat.le_of_ble_eq_true rfl, Nat.le_of_ble_eq_true rfl⟩ rfl rfl rfl s0_142 (Nat.le_of_ble_eq_true rfl) (by omega) rfl rfl (pm_zc _) (hq sc _ (by omega)) (fun M49 hq => ?_)
        refine fr_iload (pc := 153) dX12_statement_153 rfl rfl ?_
        refine fr_iconst (pc := 155) dX12_statement_155 (by decide) ?_
        refine fr_icmF (tg := 170) (pc := 156) dX12_statement_156 (decide_eq_false hc42) rfl ?_
        refine fr_aload_n (pc := 159) dX12_statement_159 rfl rfl ?_
        refine fr_bipush (pc := 160) dX12_statement_160 (by decide) ?_
        refine fr_inVI (a := 142) (as := [(0, 61)]) (rest := []) (ls' := [(2, 142), (0, 61)]) (c1 := 0) (c2 := c) (pc := 162) dX12_statement_162 pl_12_190 rfl ⟨Nat.le_of_ble_eq_true rfl, Nat.le_of_ble_eq_true rfl⟩ rfl rfl rfl s0_142 (Nat.le_of_ble_eq_true rfl) (by omega) rfl rfl (pm_zc _) (hq sc _ (by omega)) (fun r52 M51 hq => ?_)
        refine fr_ifc_ne (tg := 170) (pc := 165) dX12_statement_165 rfl hq (fun hc53 hq => ?_) (fun hc53 hq => ?_)
        · refine fr_iconst (pc := 168) dX12_statement_168 (by decide) ?_
          exact fr_iret (pc := 169) dX12_statement_169 (Or.inr (Or.inl ⟨rfl, Or.inl rfl⟩)) hq
        · exact hq sc d hd (0, l1) pm_t0 (0, l3) pm_t0 z7 hz7
theorem k12_statement_170_r {c : Nat} {h : Nat} {l2 l4 l5 l6 : Int} {M : pm_M} {K : Int → pm_M → Prop} (hh : 151 ≤ h) (hq : ((0 ≤ w32 (100 + l6) ∧ w32 (100 + l6) < 800) ∧ k12_e 150 l6 (upI M 148 (w32 (100 + l6)) (gI M 142 18)) (fun r3 M2 => (if r3 = 0 then K 0 M2 else (if l5 = (-1) then (if l4 = 0 then (∃ c9 c10 : Nat, c9 + c10 ≤ c ∧ k12_block c9 (h - 1) 150 l6 M2 (fun r8 M7 => (if r8 = 0 then ((r8 = 0 ∨ r8 = 1) ∧ K r8 M7) else (if l2 = 0 then ((r8 = 0 ∨ r8 = 1) ∧ K r8 M7) else (∃ c18 c19 : Nat, c18 + c19 ≤ c10 ∧ k12_isWord c18 101 108 115 101 0 0 M7 (fun r17 M16 => (if r17 = 0 then ((r8 = 0 ∨ r8 = 1) ∧ K r8 M16) else k12_go M16 (fun M23 => (∃ c27 c28 : Nat, c27 + c28 ≤ c19 ∧ k12_block c27 (h - 1) 151 l6 M23 (fun r26 M25 => ((r26 = 0 ∨ r26 = 1) ∧ K r26 M25))))))))))) else k12_sign 59 M2 (fun r32 M31 => ((r32 = 0 ∨ r32 = 1) ∧ K r32 M31))) else k12_sign 59 M2 (fun r35 M34 => ((r35 = 0 ∨ r35 = 1) ∧ K r35 M34))))))) : k12_statement_170 c h l2 l4 l5 l6 M K := by
  intro sc d hd z1 hz1 z3 hz3 z7 hz7
  refine fr_aload_n (pc := 170) dX12_statement_170 rfl rfl ?_
  refine fr_getr (a := 142) (pc := 171) dX12_statement_171 rfl pf_12_26 s0_142 rfl rf_142_13 ?_
  refine fr_bipush (pc := 174) dX12_statement_174 (by decide) ?_
  refine fr_iload (pc := 176) dX12_statement_176 rfl rfl ?_
  refine fr_iadd (z := w32 (100 + l6)) (pc := 178) dX12_statement_178 rfl ?_
  refine fr_aload_n (pc := 179) dX12_statement_179 rfl rfl ?_
  refine fr_getf (a := 142) (i := 18) (v := gI M 142 18) (t := 0) (pc := 180) dX12_statement_180 rfl pf_12_170 rfl s0_142 rfl rfl ?_
  obtain ⟨hb1, hq⟩ := hq
  refine fr_iastore (a := 148) (pc := 183) dX12_statement_183 rfl s0_148 hb1 nr_148 ?_
  refine fr_aload_n (pc := 184) dX12_statement_184 rfl rfl ?_
  refine fr_iload (pc := 185) dX12_statement_185 rfl rfl ?_
  refine fr_inVI (a := 142) (as := [(0, l6)]) (rest := []) (ls' := [(2, 142), (0, l6), (9, 0), (9, 0)]) (c1 := 0) (c2 := c) (pc := 187) dX12_statement_187 pl_12_187 rfl ⟨Nat.le_of_ble_eq_true rfl, Nat.le_of_ble_eq_true rfl⟩ rfl rfl rfl s0_142 (Nat.le_of_ble_eq_true rfl) (by omega) rfl rfl (pm_zc _) (hq sc _ (by omega)) (fun r3 M2 hq => ?_)
  refine fr_ifc_ne (tg := 195) (pc := 190) dX12_statement_190 rfl hq (fun hc4 hq => ?_) (fun hc4 hq => ?_)
  · refine fr_iconst (pc := 193) dX12_statement_193 (by decide) ?_
    exact fr_iret (pc := 194) dX12_statement_194 (Or.inr (Or.inl ⟨rfl, Or.inl rfl⟩)) hq
  · refine fr_iload (pc := 195) dX12_statement_195 rfl rfl ?_
    refine fr_iconst (pc := 197) dX12_statement_197 (by decide) ?_
    refine fr_icm_ne (tg := 206) (pc := 198) dX12_statement_198 rfl hq (fun hc5 hq => ?_) (fun hc5 hq => ?_)
    · refine fr_iload (pc := 201) dX12_statement_201 rfl rfl ?_
      refine fr_ifc_eq (tg := 213) (pc := 203) dX12_statement_203 rfl hq (fun hc6 hq => ?_) (fun hc6 hq => ?_)
      · refine fr_aload_n (pc := 213) dX12_statement_213 rfl rfl ?_
        refine fr_iload (pc := 214) dX12_statement_214 rfl rfl ?_
        refine fr_aload_n (pc := 216) dX12_statement_216 rfl rfl ?_
        refine fr_getr (a := 142) (pc := 217) dX12_statement_217 rfl pf_12_32 s0_142 rfl rf_142_15 ?_
        obtain ⟨c9, c10, hcc11, hq⟩ := hq
        refine fr_inVI (a := 142) (as := [(0, l6), (2, 150)]) (rest := []) (ls' := [(2, 142), (0, l6), (2, 150), (9, 0)]) (c1 := c9) (c2 := c10) (pc := 220) dX12_statement_220 pl_12_231 rfl ⟨Nat.le_of_ble_eq_true rfl, Nat.le_of_ble_eq_true rfl⟩ rfl rfl rfl s0_142 (Nat.le_of_ble_eq_true rfl) (by omega) rfl rfl hcc11 (hq sc _ (by omega)) (fun r8 M7 hq => ?_)
        refine fr_istore (ls2 := [(2, 142), z1, (0, l2), z3, (0, l4), (0, l5), (0, l6), (0, r8)]) (pc := 223) dX12_statement_223 rfl (Nat.le_of_ble_eq_true rfl) rfl ?_
        refine fr_iload (pc := 225) dX12_statement_225 rfl rfl ?_
        refine fr_ifc_eq (tg := 267) (pc := 227) dX12_statement_227 rfl hq (fun hc12 hq => ?_) (fun hc12 hq => ?_)
        · refine fr_iload (pc := 267) dX12_statement_267 rfl rfl ?_
          obtain ⟨hz13, hq⟩ := hq
          exact fr_iret (pc := 269) dX12_statement_269 (Or.inr (Or.inl ⟨rfl, hz13⟩)) hq
        · refine fr_iload_n (pc := 230) dX12_statement_230 rfl rfl ?_
          refine fr_ifc_eq (tg := 267) (pc := 231) dX12_statement_231 rfl hq (fun hc14 hq => ?_) (fun hc14 hq => ?_)
          · refine fr_iload (pc := 267) dX12_statement_267 rfl rfl ?_
            obtain ⟨hz15, hq⟩ := hq
            exact fr_iret (pc := 269) dX12_statement_269 (Or.inr (Or.inl ⟨rfl, hz15⟩)) hq
          · refine fr_aload_n (pc := 234) dX12_statement_234 rfl rfl ?_
            refine fr_bipush (pc := 235) dX12_statement_235 (by decide) ?_
            refine fr_bipush (pc := 237) dX12_statement_237 (by decide) ?_
            refine fr_bipush (pc := 239) dX12_statement_239 (by decide) ?_
            refine fr_bipush (pc := 241) dX12_statement_241 (by decide) ?_
            refine fr_iconst (pc := 243) dX12_statement_243 (by decide) ?_
            refine fr_iconst (pc := 244) dX12_statement_244 (by decide) ?_
            obtain ⟨c18, c19, hcc20, hq⟩ := hq
            refine fr_inVI (a := 142) (as := [(0, 101), (0, 108), (0, 115), (0, 101), (0, 0), (0, 0)]) (rest := []) (ls' := [(2, 142), (0, 101), (0, 108), (0, 115), (0, 101), (0, 0), (0, 0), (9, 0), (9, 0), (9, 0)]) (c1 := c18) (c2 := c19) (pc := 245) dX12_statement_245 pl_12_224 rfl ⟨Nat.le_of_ble_eq_true rfl, Nat.le_of_ble_eq_true rfl⟩ rfl rfl rfl s0_142 (Nat.le_of_ble_eq_true rfl) (by omega) rfl rfl hcc20 (hq sc _ (by omega)) (fun r17 M16 hq => ?_)
            refine fr_ifc_eq (tg := 267) (pc := 248) dX12_statement_248 rfl hq (fun hc21 hq => ?_) (fun hc21 hq => ?_)
            · refine fr_iload (pc := 267) dX12_statement_267 rfl rfl ?_
              obtain ⟨hz22, hq⟩ := hq
              exact fr_iret (pc := 269) dX12_statement_269 (Or.inr (Or.inl ⟨rfl, hz22⟩)) hq
            · refine fr_aload_n (pc := 251) dX12_statement_251 rfl rfl ?_
              refine fr_inVV (a := 142) (as := []) (rest := []) (ls' := [(2, 142), (9, 0)]) (c1 := 0) (c2 := c19) (pc := 252) dX12_statement_252 pl_12_167 rfl ⟨Nat.le_of_ble_eq_true rfl, Nat.le_of_ble_eq_true rfl⟩ rfl rfl rfl s0_142 (Nat.le_of_ble_eq_true rfl) (by omega) rfl rfl (pm_zc _) (hq sc _ (by omega)) (fun M23 hq => ?_)
              refine fr_aload_n (pc := 255) dX12_statement_255 rfl rfl ?_
              refine fr_iload (pc := 256) dX12_statement_256 rfl rfl ?_
              refine fr_aload_n (pc := 258) dX12_statement_258 rfl rfl ?_
              refine fr_getr (a := 142) (pc := 259) dX12_statement_259 rfl pf_12_35 s0_142 rfl rf_142_16 ?_
              obtain ⟨c27, c28, hcc29, hq⟩ := hq
              refine fr_inVI (a := 142) (as := [(0, l6), (2, 151)]) (rest := []) (ls' := [(2, 142), (0, l6), (2, 151), (9, 0)]) (c1 := c27) (c2 := c28) (pc := 262) dX12_statement_262 pl_12_231 rfl ⟨Nat.le_of_ble_eq_true rfl, Nat.le_of_ble_eq_true rfl⟩ rfl rfl rfl s0_142 (Nat.le_of_ble_eq_true rfl) (by omega) rfl rfl hcc29 (hq sc _ (by omega)) (fun r26 M25 hq => ?_)
              refine fr_istore (ls2 := [(2, 142), z1, (0, l2), z3, (0, l4), (0, l5), (0, l6), (0, r26)]) (pc := 265) dX12_statement_265 rfl (Nat.le_of_ble_eq_true rfl) rfl ?_
              refine fr_iload (pc := 267) dX12_statement_267 rfl rfl ?_
              obtain ⟨hz30, hq⟩ := hq
              exact fr_iret (pc := 269) dX12_statement_269 (Or.inr (Or.inl ⟨rfl, hz30⟩)) hq
      · refine fr_aload_n (pc := 206) dX12_statement_206 rfl rfl ?_
        refine fr_bipush (pc := 207) dX12_statement_207 (by decide) ?_
        refine fr_inVI (a := 142) (as := [(0, 59)]) (rest := []) (ls' := [(2, 142), (0, 59)]) (c1 := 0) (c2 := c) (pc := 209) dX12_statement_209 pl_12_190 rfl ⟨Nat.le_of_ble_eq_true rfl, Nat.le_of_ble_eq_true rfl⟩ rfl rfl rfl s0_142 (Nat.le_of_ble_eq_true rfl) (by omega) rfl rfl (pm_zc _) (hq sc _ (by omega)) (fun r32 M31 hq => ?_)
        obtain ⟨hz33, hq⟩ := hq
        exact fr_iret (pc := 212) dX12_statement_212 (Or.inr (Or.inl ⟨rfl, hz33⟩)) hq
    · refine fr_aload_n (pc := 206) dX12_statement_206 rfl rfl ?_
      refine fr_bipush (pc := 207) dX12_statement_207 (by decide) ?_
      refine fr_inVI (a := 142) (as := [(0, 59)]) (rest := []) (ls' := [(2, 142), (0, 59)]) (c1 := 0) (c2 := c) (pc := 209) dX12_statement_209 pl_12_190 rfl ⟨Nat.le_of_ble_eq_true rfl, Nat.le_of_ble_eq_true rfl⟩ rfl rfl rfl s0_142 (Nat.le_of_ble_eq_true rfl) (by omega) rfl rfl (pm_zc _) (hq sc _ (by omega)) (fun r35 M34 hq => ?_)
      obtain ⟨hz36, hq⟩ := hq
      exact fr_iret (pc := 212) dX12_statement_212 (Or.inr (Or.inl ⟨rfl, hz36⟩)) hq
theorem k12_variable_r {M : pm_M} {K : Int → pm_M → Prop} (hq : (if gI M 142 4 < gI M 142 3 then ((0 ≤ gI M 142 4 ∧ gI M 142 4 < 600) ∧ (if gI M 142 6 = 1 then (if w32 ((gI M 142 5) - (gI M 142 4)) = 1 then (if pm_iand (gI M 143 (gI M 142 4)) 255 < 120 then (if pm_iand (gI M 143 (gI M 142 4)) 255 < 97 then K (-1) M else (if pm_iand (gI M 143 (gI M 142 4)) 255 ≤ 102 then K (w32 ((w32 (3 + (pm_iand (gI M 143 (gI M 142 4)) 255))) - 97)) M else K (-1) M)) else (if pm_iand (gI M 143 (gI M 142 4)) 255 ≤ 122 then K (w32 ((pm_iand (gI M 143 (gI M 142 4)) 255) - 120)) M else (if pm_iand (gI M 143 (gI M 142 4)) 255 < 97 then K (-1) M else (if pm_iand (gI M 143 (gI M 142 4)) 255 ≤ 102 then K (w32 ((w32 (3 + (pm_iand (gI M 143 (gI M 142 4)) 255))) - 97)) M else K (-1) M)))) else K (-1) M) else K (-1) M)) else (if gI M 142 6 = 1 then (if w32 ((gI M 142 5) - (gI M 142 4)) = 1 then K (-1) M else K (-1) M) else K (-1) M))) : k12_variable M K := by
  intro sc d hd
  refine fr_aload_n (pc := 0) dX12_variable_0 rfl rfl ?_
  refine fr_aload_n (pc := 1) dX12_variable_1 rfl rfl ?_
  refine fr_getf (a := 142) (i := 4) (v := gI M 142 4) (t := 0) (pc := 2) dX12_variable_2 rfl pf_12_141 rfl s0_142 rfl rfl ?_
  refine fr_inVI (a := 142) (as := [(0, gI M 142 4)]) (rest := []) (ls' := [(2, 142), (0, gI M 142 4)]) (c1 := 0) (c2 := 0) (pc := 5) dX12_variable_5 pl_12_137 rfl ⟨Nat.le_of_ble_eq_true rfl, Nat.le_of_ble_eq_true rfl⟩ rfl rfl rfl s0_142 (Nat.le_of_ble_eq_true rfl) (by omega) rfl rfl (pm_zc _) ?_ (fun y M' h => h)
  refine fr_iload_n (pc := 0) dX12_byteAt_0 rfl rfl ?_
  refine fr_aload_n (pc := 1) dX12_byteAt_1 rfl rfl ?_
  refine fr_getf (a := 142) (i := 3) (v := gI M 142 3) (t := 0) (pc := 2) dX12_byteAt_2 rfl pf_12_131 rfl s0_142 rfl rfl ?_
  refine fr_icm_ge (tg := 21) (pc := 5) dX12_byteAt_5 rfl hq (fun hc1 hq => ?_) (fun hc1 hq => ?_)
  · refine fr_aload_n (pc := 8) dX12_byteAt_8 rfl rfl ?_
    refine fr_getr (a := 142) (pc := 9) dX12_byteAt_9 rfl pf_12_7 s0_142 rfl rf_142_1 ?_
    refine fr_iload_n (pc := 12) dX12_byteAt_12 rfl rfl ?_
    obtain ⟨hb2, hq⟩ := hq
    refine fr_baload (a := 143) (v := gI M 143 (gI M 142 4)) (pc := 13) dX12_byteAt_13 rfl s0_143 hb2 (Or.inl rfl) rfl ?_
    refine fr_sipush (pc := 14) dX12_byteAt_14 (by decide) ?_
    refine fr_iand (z := pm_iand (gI M 143 (gI M 142 4)) 255) (pc := 17) dX12_byteAt_17 rfl ?_
    refine fr_goto (tg := 22) (pc := 18) dX12_byteAt_18 rfl ?_
    refine fr_iret (pc := 22) dX12_byteAt_22 (Or.inl rfl) ?_
    refine fr_istore_n (ls2 := [(2, 142), (0, pm_iand (gI M 143 (gI M 142 4)) 255)]) (pc := 8) dX12_variable_8 rfl (Nat.le_of_ble_eq_true rfl) rfl ?_
    refine fr_aload_n (pc := 9) dX12_variable_9 rfl rfl ?_
    refine fr_getf (a := 142) (i := 6) (v := gI M 142 6) (t := 0) (pc := 10) dX12_variable_10 rfl pf_12_144 rfl s0_142 rfl rfl ?_
    refine fr_iconst (pc := 13) dX12_variable_13 (by decide) ?_
    refine fr_icm_ne (tg := 30) (pc := 14) dX12_variable_14 rfl hq (fun hc3 hq => ?_) (fun hc3 hq => ?_)
    · refine fr_aload_n (pc := 17) dX12_variable_17 rfl rfl ?_
      refine fr_getf (a := 142) (i := 5) (v := gI M 142 5) (t := 0) (pc := 18) dX12_variable_18 rfl pf_12_134 rfl s0_142 rfl rfl ?_
      refine fr_aload_n (pc := 21) dX12_variable_21 rfl rfl ?_
      refine fr_getf (a := 142) (i := 4) (v := gI M 142 4) (t := 0) (pc := 22) dX12_variable_22 rfl pf_12_141 rfl s0_142 rfl rfl ?_
      refine fr_isub (z := w32 ((gI M 142 5) - (gI M 142 4))) (pc := 25) dX12_variable_25 rfl ?_
      refine fr_iconst (pc := 26) dX12_variable_26 (by decide) ?_
      refine fr_icm_eq (tg := 32) (pc := 27) dX12_variable_27 rfl hq (fun hc4 hq => ?_) (fun hc4 hq => ?_)
      · refine fr_iload_n (pc := 32) dX12_variable_32 rfl rfl ?_
        refine fr_bipush (pc := 33) dX12_variable_33 (by decide) ?_
        refine fr_bipush (pc := 35) dX12_variable_35 (by decide) ?_
        refine fr_inSI (as := [(0, pm_iand (gI M 143 (gI M 142 4)) 255), (0, 120), (0, 122)]) (rest := []) (ls' := [(0, pm_iand (gI M 143 (gI M 142 4)) 255), (0, 120), (0, 122)]) (c1 := 0) (c2 := 0) (pc := 37) dX12_variable_37 pl_12_147 rfl ⟨Nat.le_of_ble_eq_true rfl, Nat.le_of_ble_eq_true rfl⟩ rfl rfl  (by omega) rfl rfl (pm_zc _) ?_ (fun y M' h => h)
        refine fr_iload_n (pc := 0) dX12_within_0 rfl rfl ?_
        refine fr_iload_n (pc := 1) dX12_within_1 rfl rfl ?_
        refine fr_icm_lt (tg := 14) (pc := 2) dX12_within_2 rfl hq (fun hc5 hq => ?_) (fun hc5 hq => ?_)
        · refine fr_iconst (pc := 14) dX12_within_14 (by decide) ?_
          refine fr_iret (pc := 15) dX12_within_15 (Or.inr (Or.inl ⟨rfl, Or.inl rfl⟩)) ?_
          refine fr_ifcT (tg := 50) (pc := 40) dX12_variable_40 rfl rfl ?_
          refine fr_iload_n (pc := 50) dX12_variable_50 rfl rfl ?_
          refine fr_bipush (pc := 51) dX12_variable_51 (by decide) ?_
          refine fr_bipush (pc := 53) dX12_variable_53 (by decide) ?_
          refine fr_inSI (as := [(0, pm_iand (gI M 143 (gI M 142 4)) 255), (0, 97), (0, 102)]) (rest := []) (ls' := [(0, pm_iand (gI M 143 (gI M 142 4)) 255), (0, 97), (0, 102)]) (c1 := 0) (c2 := 0) (pc := 55) dX12_variable_55 pl_12_147 rfl ⟨Nat.le_of_ble_eq_true rfl, Nat.le_of_ble_eq_true rfl⟩ rfl rfl  (by omega) rfl rfl (pm_zc _) ?_ (fun y M' h => h)
          refine fr_iload_n (pc := 0) dX12_within_0 rfl rfl ?_
          refine fr_iload_n (pc := 1) dX12_within_1 rfl rfl ?_
          refine fr_icm_lt (tg := 14) (pc := 2) dX12_within_2 rfl hq (fun hc6 hq => ?_) (fun hc6 hq => ?_)
          · refine fr_iconst (pc := 14) dX12_within_14 (by decide) ?_
            refine fr_iret (pc := 15) dX12_within_15 (Or.inr (Or.inl ⟨rfl, Or.inl rfl⟩)) ?_
            refine fr_ifcT (tg := 70) (pc := 58) dX12_variable_58 rfl rfl ?_
            refine fr_iconst (pc := 70) dX12_variable_70 (by decide) ?_
            exact fr_iret (pc := 71) dX12_variable_71 (Or.inl rfl) hq
          · refine fr_iload_n (pc := 5) dX12_within_5 rfl rfl ?_
            refine fr_iload_n (pc := 6) dX12_within_6 rfl rfl ?_
            refine fr_icm_gt (tg := 14) (pc := 7) dX12_within_7 rfl hq (fun hc7 hq => ?_) (fun hc7 hq => ?_)
            · refine fr_iconst (pc := 10) dX12_within_10 (by decide) ?_
              refine fr_goto (tg := 15) (pc := 11) dX12_within_11 rfl ?_
              refine fr_iret (pc := 15) dX12_within_15 (Or.inr (Or.inl ⟨rfl, Or.inr rfl⟩)) ?_
              refine fr_ifcF (tg := 70) (pc := 58) dX12_variable_58 rfl rfl ?_
              refine fr_iconst (pc := 61) dX12_variable_61 (by decide) ?_
              refine fr_iload_n (pc := 62) dX12_variable_62 rfl rfl ?_
              refine fr_iadd (z := w32 (3 + (pm_iand (gI M 143 (gI M 142 4)) 255))) (pc := 63) dX12_variable_63 rfl ?_
              refine fr_bipush (pc := 64) dX12_variable_64 (by decide) ?_
              refine fr_isub (z := w32 ((w32 (3 + (pm_iand (gI M 143 (gI M 142 4)) 255))) - 97)) (pc := 66) dX12_variable_66 rfl ?_
              refine fr_goto (tg := 71) (pc := 67) dX12_variable_67 rfl ?_
              exact fr_iret (pc := 71) dX12_variable_71 (Or.inl rfl) hq
            · refine fr_iconst (pc := 14) dX12_within_14 (by decide) ?_
              refine fr_iret (pc := 15) dX12_within_15 (Or.inr (Or.inl ⟨rfl, Or.inl rfl⟩)) ?_
              refine fr_ifcT (tg := 70) (pc := 58) dX12_variable_58 rfl rfl ?_
              refine fr_iconst (pc := 70) dX12_variable_70 (by decide) ?_
              exact fr_iret (pc := 71) dX12_variable_71 (Or.inl rfl) hq
        · refine fr_iload_n (pc := 5) dX12_within_5 rfl rfl ?_
          refine fr_iload_n (pc := 6) dX12_within_6 rfl rfl ?_
          refine fr_icm_gt (tg := 14) (pc := 7) dX12_within_7 rfl hq (fun hc8 hq => ?_) (fun hc8 hq => ?_)
          · refine fr_iconst (pc := 10) dX12_within_10 (by decide) ?_
            refine fr_goto (tg := 15) (pc := 11) dX12_within_11 rfl ?_
            refine fr_iret (pc := 15) dX12_within_15 (Or.inr (Or.inl ⟨rfl, Or.inr rfl⟩)) ?_
            refine fr_ifcF (tg := 50) (pc := 40) dX12_variable_40 rfl rfl ?_
            refine fr_iload_n (pc := 43) dX12_variable_43 rfl rfl ?_
            refine fr_bipush (pc := 44) dX12_variable_44 (by decide) ?_
            refine fr_isub (z := w32 ((pm_iand (gI M 143 (gI M 142 4)) 255) - 120)) (pc := 46) dX12_variable_46 rfl ?_
            refine fr_goto (tg := 71) (pc := 47) dX12_variable_47 rfl ?_
            exact fr_iret (pc := 71) dX12_variable_71 (Or.inl rfl) hq
          · refine fr_iconst (pc := 14) dX12_within_14 (by decide) ?_
            refine fr_iret (pc := 15) dX12_within_15 (Or.inr (Or.inl ⟨rfl, Or.inl rfl⟩)) ?_
            refine fr_ifcT (tg := 50) (pc := 40) dX12_variable_40 rfl rfl ?_
            refine fr_iload_n (pc := 50) dX12_variable_50 rfl rfl ?_
            refine fr_bipush (pc := 51) dX12_variable_51 (by decide) ?_
            refine fr_bipush (pc := 53) dX12_variable_53 (by decide) ?_
            refine fr_inSI (as := [(0, pm_iand (gI M 143 (gI M 142 4)) 255), (0, 97), (0, 102)]) (rest := []) (ls' := [(0, pm_iand (gI M 143 (gI M 142 4)) 255), (0, 97), (0, 102)]) (c1 := 0) (c2 := 0) (pc := 55) dX12_variable_55 pl_12_147 rfl ⟨Nat.le_of_ble_eq_true rfl, Nat.le_of_ble_eq_true rfl⟩ rfl rfl  (by omega) rfl rfl (pm_zc _) ?_ (fun y M' h => h)
            refine fr_iload_n (pc := 0) dX12_within_0 rfl rfl ?_
            refine fr_iload_n (pc := 1) dX12_within_1 rfl rfl ?_
            refine fr_icm_lt (tg := 14) (pc := 2) dX12_within_2 rfl hq (fun hc9 hq => ?_) (fun hc9 hq => ?_)
            · refine fr_iconst (pc := 14) dX12_within_14 (by decide) ?_
              refine fr_iret (pc := 15) dX12_within_15 (Or.inr (Or.inl ⟨rfl, Or.inl rfl⟩)) ?_
              refine fr_ifcT (tg := 70) (pc := 58) dX12_variable_58 rfl rfl ?_
              refine fr_iconst (pc := 70) dX12_variable_70 (by decide) ?_
              exact fr_iret (pc := 71) dX12_variable_71 (Or.inl rfl) hq
            · refine fr_iload_n (pc := 5) dX12_within_5 rfl rfl ?_
              refine fr_iload_n (pc := 6) dX12_within_6 rfl rfl ?_
              refine fr_icm_gt (tg := 14) (pc := 7) dX12_within_7 rfl hq (fun hc10 hq => ?_) (fun hc10 hq => ?_)
              · refine fr_iconst (pc := 10) dX12_within_10 (by decide) ?_
                refine fr_goto (tg := 15) (pc := 11) dX12_within_11 rfl ?_
                refine fr_iret (pc := 15) dX12_within_15 (Or.inr (Or.inl ⟨rfl, Or.inr rfl⟩)) ?_
                refine fr_ifcF (tg := 70) (pc := 58) dX12_variable_58 rfl rfl ?_
                refine fr_iconst (pc := 61) dX12_variable_61 (by decide) ?_
                refine fr_iload_n (pc := 62) dX12_variable_62 rfl rfl ?_
                refine fr_iadd (z := w32 (3 + (pm_iand (gI M 143 (gI M 142 4)) 255))) (pc := 63) dX12_variable_63 rfl ?_
                refine fr_bipush (pc := 64) dX12_variable_64 (by decide) ?_
                refine fr_isub (z := w32 ((w32 (3 + (pm_iand (gI M 143 (gI M 142 4)) 255))) - 97)) (pc := 66) dX12_variable_66 rfl ?_
                refine fr_goto (tg := 71) (pc := 67) dX12_variable_67 rfl ?_
                exact fr_iret (pc := 71) dX12_variable_71 (Or.inl rfl) hq
              · refine fr_iconst (pc := 14) dX12_within_14 (by decide) ?_
                refine fr_iret (pc := 15) dX12_within_15 (Or.inr (Or.inl ⟨rfl, Or.inl rfl⟩)) ?_
                refine fr_ifcT (tg := 70) (pc := 58) dX12_variable_58 rfl rfl ?_
                refine fr_iconst (pc := 70) dX12_variable_70 (by decide) ?_
                exact fr_iret (pc := 71) dX12_variable_71 (Or.inl rfl) hq
      · refine fr_iconst (pc := 30) dX12_variable_30 (by decide) ?_
        exact fr_iret (pc := 31) dX12_variable_31 (Or.inl rfl) hq
    · refine fr_iconst (pc := 30) dX12_variable_30 (by decide) ?_
      exact fr_iret (pc := 31) dX12_variable_31 (Or.inl rfl) hq
  · refine fr_iconst (pc := 21) dX12_byteAt_21 (by decide) ?_
    refine fr_iret (pc := 22) dX12_byteAt_22 (Or.inl rfl) ?_
    refine fr_istore_n (ls2 := [(2, 142), (0, (-1))]) (pc := 8) dX12_variable_8 rfl (Nat.le_of_ble_eq_true rfl) rfl ?_
    refine fr_aload_n (pc := 9) dX12_variable_9 rfl rfl ?_
    refine fr_getf (a := 142) (i := 6) (v := gI M 142 6) (t := 0) (pc := 10) dX12_variable_10 rfl pf_12_144 rfl s0_142 rfl rfl ?_
    refine fr_iconst (pc := 13) dX12_variable_13 (by decide) ?_
    refine fr_icm_ne (tg := 30) (pc := 14) dX12_variable_14 rfl hq (fun hc11 hq => ?_) (fun hc11 hq => ?_)
    · refine fr_aload_n (pc := 17) dX12_variable_17 rfl rfl ?_
      refine fr_getf (a := 142) (i := 5) (v := gI M 142 5) (t := 0) (pc := 18) dX12_variable_18 rfl pf_12_134 rfl s0_142 rfl rfl ?_
      refine fr_aload_n (pc := 21) dX12_variable_21 rfl rfl ?_
      refine fr_getf (a := 142) (i := 4) (v := gI M 142 4) (t := 0) (pc := 22) dX12_variable_22 rfl pf_12_141 rfl s0_142 rfl rfl ?_
      refine fr_isub (z := w32 ((gI M 142 5) - (gI M 142 4))) (pc := 25) dX12_variable_25 rfl ?_
      refine fr_iconst (pc := 26) dX12_variable_26 (by decide) ?_
      refine fr_icm_eq (tg := 32) (pc := 27) dX12_variable_27 rfl hq (fun hc12 hq => ?_) (fun hc12 hq => ?_)
      · refine fr_iload_n (pc := 32) dX12_variable_32 rfl rfl ?_
        refine fr_bipush (pc := 33) dX12_variable_33 (by decide) ?_
        refine fr_bipush (pc := 35) dX12_variable_35 (by decide) ?_
        refine fr_inSI (as := [(0, (-1)), (0, 120), (0, 122)]) (rest := []) (ls' := [(0, (-1)), (0, 120), (0, 122)]) (c1 := 0) (c2 := 0) (pc := 37) dX12_variable_37 pl_12_147 rfl ⟨Nat.le_of_ble_eq_true rfl, Nat.le_of_ble_eq_true rfl⟩ rfl rfl  (by omega) rfl rfl (pm_zc _) ?_ (fun y M' h => h)
        refine fr_iload_n (pc := 0) dX12_within_0 rfl rfl ?_
        refine fr_iload_n (pc := 1) dX12_within_1 rfl rfl ?_
        refine fr_icmT (tg := 14) (pc := 2) dX12_within_2 rfl rfl ?_
        refine fr_iconst (pc := 14) dX12_within_14 (by decide) ?_
        refine fr_iret (pc := 15) dX12_within_15 (Or.inr (Or.inl ⟨rfl, Or.inl rfl⟩)) ?_
        refine fr_ifcT (tg := 50) (pc := 40) dX12_variable_40 rfl rfl ?_
        refine fr_iload_n (pc := 50) dX12_variable_50 rfl rfl ?_
        refine fr_bipush (pc := 51) dX12_variable_51 (by decide) ?_
        refine fr_bipush (pc := 53) dX12_variable_53 (by decide) ?_
        refine fr_inSI (as := [(0, (-1)), (0, 97), (0, 102)]) (rest := []) (ls' := [(0, (-1)), (0, 97), (0, 102)]) (c1 := 0) (c2 := 0) (pc := 55) dX12_variable_55 pl_12_147 rfl ⟨Nat.le_of_ble_eq_true rfl, Nat.le_of_ble_eq_true rfl⟩ rfl rfl  (by omega) rfl rfl (pm_zc _) ?_ (fun y M' h => h)
        refine fr_iload_n (pc := 0) dX12_within_0 rfl rfl ?_
        refine fr_iload_n (pc := 1) dX12_within_1 rfl rfl ?_
        refine fr_icmT (tg := 14) (pc := 2) dX12_within_2 rfl rfl ?_
        refine fr_iconst (pc := 14) dX12_within_14 (by decide) ?_
        refine fr_iret (pc := 15) dX12_within_15 (Or.inr (Or.inl ⟨rfl, Or.inl rfl⟩)) ?_
        refine fr_ifcT (tg := 70) (pc := 58) dX12_variable_58 rfl rfl ?_
        refine fr_iconst (pc := 70) dX12_variable_70 (by decide) ?_
        exact fr_iret (pc := 71) dX12_variable_71 (Or.inl rfl) hq
      · refine fr_iconst (pc := 30) dX12_variable_30 (by decide) ?_
        exact fr_iret (pc := 31) dX12_variable_31 (Or.inl rfl) hq
    · refine fr_iconst (pc := 30) dX12_variable_30 (by decide) ?_
      exact fr_iret (pc := 31) dX12_variable_31 (Or.inl rfl) hq

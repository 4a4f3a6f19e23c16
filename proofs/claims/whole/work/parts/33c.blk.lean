-- needs 30 31 32
theorem k0_linkWays_r {o : Nat} {a1 : Int} {M : pm_M} {K : pm_M → Prop} (ho : o = 2 ∨ o = 36) (hq : ((0 ≤ a1 ∧ a1 < 60) ∧ k0_firstIn o (gI M (o + 4) a1) (gI M (o + 11) a1) (w32 (a1 + 1)) M (fun r3 M2 => (if r3 = (-1) then (if gI M (o + 4) a1 = (-1) then k0_linkWays_53 o a1 r3 M2 K else ((0 ≤ gI M (o + 4) a1 ∧ gI M (o + 4) a1 < 60) ∧ (if gI M2 (o + 1) (gI M (o + 4) a1) = 2 then k0_linkWays_53 o a1 (gI M (o + 4) a1) M2 K else k0_linkWays_53 o a1 (gI M2 (o + 8) (gI M (o + 4) a1)) M2 K))) else k0_linkWays_53 o a1 r3 M2 K)))) : k0_linkWays o a1 M K := by
  intro sc d hd
  rcases ho with rfl | rfl
  · refine fr_aload_n (pc := 0) dX0_linkWays_0 rfl rfl ?_
    refine fr_getr (a := 2) (pc := 1) dX0_linkWays_1 rfl pf_0_21 s0_2 rfl rf_2_3 ?_
    refine fr_iload_n (pc := 4) dX0_linkWays_4 rfl rfl ?_
    obtain ⟨hb1, hq⟩ := hq
    refine fr_iaload (a := 6) (v := gI M (2 + 4) a1) (pc := 5) dX0_linkWays_5 rfl s0_6 hb1 rfl ?_
    refine fr_istore_n (ls2 := [(2, 2), (0, a1), (0, gI M (2 + 4) a1), (9, 0), (9, 0), (9, 0)]) (pc := 6) dX0_linkWays_6 rfl (Nat.le_of_ble_eq_true rfl) rfl ?_
    refine fr_aload_n (pc := 7) dX0_linkWays_7 rfl rfl ?_
    refine fr_iload_n (pc := 8) dX0_linkWays_8 rfl rfl ?_
    refine fr_aload_n (pc := 9) dX0_linkWays_9 rfl rfl ?_
    refine fr_getr (a := 2) (pc := 10) dX0_linkWays_10 rfl pf_0_42 s0_2 rfl rf_2_10 ?_
    refine fr_iload_n (pc := 13) dX0_linkWays_13 rfl rfl ?_
    refine fr_iaload (a := 13) (v := gI M (2 + 11) a1) (pc := 14) dX0_linkWays_14 rfl s0_13 hb1 rfl ?_
    refine fr_iload_n (pc := 15) dX0_linkWays_15 rfl rfl ?_
    refine fr_iconst (pc := 16) dX0_linkWays_16 (by decide) ?_
    refine fr_iadd (z := w32 (a1 + 1)) (pc := 17) dX0_linkWays_17 rfl ?_
    refine fr_inVI (a := 2) (as := [(0, gI M (2 + 4) a1), (0, gI M (2 + 11) a1), (0, w32 (a1 + 1))]) (rest := []) (ls' := [(2, 2), (0, gI M (2 + 4) a1), (0, gI M (2 + 11) a1), (0, w32 (a1 + 1)), (9, 0), (9, 0)]) (c1 := 0) (c2 := 0) (pc := 18) dX0_linkWays_18 pl_0_93 rfl ⟨Nat.le_of_ble_eq_true rfl, Nat.le_of_ble_eq_true rfl⟩ rfl rfl rfl s0_2 (Nat.le_of_ble_eq_true rfl) (by omega) rfl rfl (pm_zc _) (hq sc _ (by omega)) (fun r3 M2 hq => ?_)
    refine fr_istore_n (ls2 := [(2, 2), (0, a1), (0, gI M (2 + 4) a1), (0, r3), (9, 0), (9, 0)]) (pc := 21) dX0_linkWays_21 rfl (Nat.le_of_ble_eq_true rfl) rfl ?_
    refine fr_iload_n (pc := 22) dX0_linkWays_22 rfl rfl ?_
    refine fr_iconst (pc := 23) dX0_linkWays_23 (by decide) ?_
    refine fr_icm_ne (tg := 53) (pc := 24) dX0_linkWays_24 rfl hq (fun hc4 hq => ?_) (fun hc4 hq => ?_)
    · refine fr_iload_n (pc := 27) dX0_linkWays_27 rfl rfl ?_
      refine fr_iconst (pc := 28) dX0_linkWays_28 (by decide) ?_
      refine fr_icm_eq (tg := 53) (pc := 29) dX0_linkWays_29 rfl hq (fun hc5 hq => ?_) (fun hc5 hq => ?_)
      · exact hq sc d hd (0, gI M (2 + 4) a1) pm_t0 (9, 0) pm_t9 (9, 0) pm_t9
      · refine fr_aload_n (pc := 32) dX0_linkWays_32 rfl rfl ?_
        refine fr_getr (a := 2) (pc := 33) dX0_linkWays_33 rfl pf_0_9 s0_2 rfl rf_2_0 ?_
        refine fr_iload_n (pc := 36) dX0_linkWays_36 rfl rfl ?_
        obtain ⟨hb6, hq⟩ := hq
        refine fr_iaload (a := 3) (v := gI M2 (2 + 1) (gI M (2 + 4) a1)) (pc := 37) dX0_linkWays_37 rfl s0_3 hb6 rfl ?_
        refine fr_iconst (pc := 38) dX0_linkWays_38 (by decide) ?_
        refine fr_icm_ne (tg := 46) (pc := 39) dX0_linkWays_39 rfl hq (fun hc7 hq => ?_) (fun hc7 hq => ?_)
        · refine fr_iload_n (pc := 42) dX0_linkWays_42 rfl rfl ?_
          refine fr_goto (tg := 52) (pc := 43) dX0_linkWays_43 rfl ?_
          refine fr_istore_n (ls2 := [(2, 2), (0, a1), (0, gI M (2 + 4) a1), (0, gI M (2 + 4) a1), (9, 0), (9, 0)]) (pc := 52) dX0_linkWays_52 rfl (Nat.le_of_ble_eq_true rfl) rfl ?_
          exact hq sc d hd (0, gI M (2 + 4) a1) pm_t0 (9, 0) pm_t9 (9, 0) pm_t9
        · refine fr_aload_n (pc := 46) dX0_linkWays_46 rfl rfl ?_
          refine fr_getr (a := 2) (pc := 47) dX0_linkWays_47 rfl pf_0_33 s0_2 rfl rf_2_7 ?_
          refine fr_iload_n (pc := 50) dX0_linkWays_50 rfl rfl ?_
          refine fr_iaload (a := 10) (v := gI M2 (2 + 8) (gI M (2 + 4) a1)) (pc := 51) dX0_linkWays_51 rfl s0_10 hb6 rfl ?_
          refine fr_istore_n (ls2 := [(2, 2), (0, a1), (0, gI M (2 + 4) a1), (0, gI M2 (2 + 8) (gI M (2 + 4) a1)), (9, 0), (9, 0)]) (pc := 52) dX0_linkWays_52 rfl (Nat.le_of_ble_eq_true rfl) rfl ?_
          exact hq sc d hd (0, gI M (2 + 4) a1) pm_t0 (9, 0) pm_t9 (9, 0) pm_t9
    · exact hq sc d hd (0, gI M (2 + 4) a1) pm_t0 (9, 0) pm_t9 (9, 0) pm_t9
  · refine fr_aload_n (pc := 0) dX0_linkWays_0 rfl rfl ?_
    refine fr_getr (a := 36) (pc := 1) dX0_linkWays_1 rfl pf_0_21 s0_36 rfl rf_36_3 ?_
    refine fr_iload_n (pc := 4) dX0_linkWays_4 rfl rfl ?_
    obtain ⟨hb1, hq⟩ := hq
    refine fr_iaload (a := 40) (v := gI M (36 + 4) a1) (pc := 5) dX0_linkWays_5 rfl s0_40 hb1 rfl ?_
    refine fr_istore_n (ls2 := [(2, 36), (0, a1), (0, gI M (36 + 4) a1), (9, 0), (9, 0), (9, 0)]) (pc := 6) dX0_linkWays_6 rfl (Nat.le_of_ble_eq_true rfl) rfl ?_
    refine fr_aload_n (pc := 7) dX0_linkWays_7 rfl rfl ?_
    refine fr_iload_n (pc := 8) dX0_linkWays_8 rfl rfl ?_
    refine fr_aload_n (pc := 9) dX0_linkWays_9 rfl rfl ?_
    refine fr_getr (a := 36) (pc := 10) dX0_linkWays_10 rfl pf_0_42 s0_36 rfl rf_36_10 ?_
    refine fr_iload_n (pc := 13) dX0_linkWays_13 rfl rfl ?_
    refine fr_iaload (a := 47) (v := gI M (36 + 11) a1) (pc := 14) dX0_linkWays_14 rfl s0_47 hb1 rfl ?_
    refine fr_iload_n (pc := 15) dX0_linkWays_15 rfl rfl ?_
    refine fr_iconst (pc := 16) dX0_linkWays_16 (by decide) ?_
    refine fr_iadd (z := w32 (a1 + 1)) (pc := 17) dX0_linkWays_17 rfl ?_
    refine fr_inVI (a := 36) (as := [(0, gI M (36 + 4) a1), (0, gI M (36 + 11) a1), (0, w32 (a1 + 1))]) (rest := []) (ls' := [(2, 36), (0, gI M (36 + 4) a1), (0, gI M (36 + 11) a1), (0, w32 (a1 + 1)), (9, 0), (9, 0)]) (c1 := 0) (c2 := 0) (pc := 18) dX0_linkWays_18 pl_0_93 rfl ⟨Nat.le_of_ble_eq_true rfl, Nat.le_of_ble_eq_true rfl⟩ rfl rfl rfl s0_36 (Nat.le_of_ble_eq_true rfl) (by omega) rfl rfl (pm_zc _) (hq sc _ (by omega)) (fun r3 M2 hq => ?_)
    refine fr_istore_n (ls2 := [(2, 36), (0, a1), (0, gI M (36 + 4) a1), (0, r3), (9, 0), (9, 0)]) (pc := 21) dX0_linkWays_21 rfl (Nat.le_of_ble_eq_true rfl) rfl ?_
    refine fr_iload_n (pc := 22) dX0_linkWays_22 rfl rfl ?_
    refine fr_iconst (pc := 23) dX0_linkWays_23 (by decide) ?_
    refine fr_icm_ne (tg := 53) (pc := 24) dX0_linkWays_24 rfl hq (fun hc4 hq => ?_) (fun hc4 hq => ?_)
    · refine fr_iload_n (pc := 27) dX0_linkWays_27 rfl rfl ?_
      refine fr_iconst (pc := 28) dX0_linkWays_28 (by decide) ?_
      refine fr_icm_eq (tg := 53) (pc := 29) dX0_linkWays_29 rfl hq (fun hc5 hq => ?_) (fun hc5 hq => ?_)
      · exact hq sc d hd (0, gI M (36 + 4) a1) pm_t0 (9, 0) pm_t9 (9, 0) pm_t9
      · refine fr_aload_n (pc := 32) dX0_linkWays_32 rfl rfl ?_
        refine fr_getr (a := 36) (pc := 33) dX0_linkWays_33 rfl pf_0_9 s0_36 rfl rf_36_0 ?_
        refine fr_iload_n (pc := 36) dX0_linkWays_36 rfl rfl ?_
        obtain ⟨hb6, hq⟩ := hq
        refine fr_iaload (a := 37) (v := gI M2 (36 + 1) (gI M (36 + 4) a1)) (pc := 37) dX0_linkWays_37 rfl s0_37 hb6 rfl ?_
        refine fr_iconst (pc := 38) dX0_linkWays_38 (by decide) ?_
        refine fr_icm_ne (tg := 46) (pc := 39) dX0_linkWays_39 rfl hq (fun hc7 hq => ?_) (fun hc7 hq => ?_)
        · refine fr_iload_n (pc := 42) dX0_linkWays_42 rfl rfl ?_
          refine fr_goto (tg := 52) (pc := 43) dX0_linkWays_43 rfl ?_
          refine fr_istore_n (ls2 := [(2, 36), (0, a1), (0, gI M (36 + 4) a1), (0, gI M (36 + 4) a1), (9, 0), (9, 0)]) (pc := 52) dX0_linkWays_52 rfl (Nat.le_of_ble_eq_true rfl) rfl ?_
          exact hq sc d hd (0, gI M (36 + 4) a1) pm_t0 (9, 0) pm_t9 (9, 0) pm_t9
        · refine fr_aload_n (pc := 46) dX0_linkWays_46 rfl rfl ?_
          refine fr_getr (a := 36) (pc := 47) dX0_linkWays_47 rfl pf_0_33 s0_36 rfl rf_36_7 ?_
          refine fr_iload_n (pc := 50) dX0_linkWays_50 rfl rfl ?_
          refine fr_iaload (a := 44) (v := gI M2 (36 + 8) (gI M (36 + 4) a1)) (pc := 51) dX0_linkWays_51 rfl s0_44 hb6 rfl ?_
          refine fr_istore_n (ls2 := [(2, 36), (0, a1), (0, gI M (36 + 4) a1), (0, gI M2 (36 + 8) (gI M (36 + 4) a1)), (9, 0), (9, 0)]) (pc := 52) dX0_linkWays_52 rfl (Nat.le_of_ble_eq_true rfl) rfl ?_
          exact hq sc d hd (0, gI M (36 + 4) a1) pm_t0 (9, 0) pm_t9 (9, 0) pm_t9
    · exact hq sc d hd (0, gI M (36 + 4) a1) pm_t0 (9, 0) pm_t9 (9, 0) pm_t9
theorem k0_linkWays_53_r {o : Nat} {l1 l3 : Int} {M : pm_M} {K : pm_M → Prop} (ho : o = 2 ∨ o = 36) (hq : ((0 ≤ l1 ∧ l1 < 60) ∧ k0_firstIn o l1 0 (w32 (l1 + 1)) (upI M (o + 8) l1 l3) (fun r3 M2 => (if r3 = (-1) then (if gI M2 (o + 1) l1 = 2 then k0_firstIn o l1 1 (w32 (l1 + 1)) (upI M2 (o + 9) l1 l1) (fun r7 M6 => (if r7 = (-1) then K (upI M6 (o + 10) l1 l3) else K (upI M6 (o + 10) l1 r7))) else k0_firstIn o l1 1 (w32 (l1 + 1)) (upI M2 (o + 9) l1 l3) (fun r10 M9 => (if r10 = (-1) then K (upI M9 (o + 10) l1 l3) else K (upI M9 (o + 10) l1 r10)))) else k0_firstIn o l1 1 (w32 (l1 + 1)) (upI M2 (o + 9) l1 r3) (fun r13 M12 => (if r13 = (-1) then K (upI M12 (o + 10) l1 l3) else K (upI M12 (o + 10) l1 r13))))))) : k0_linkWays_53 o l1 l3 M K := by
  intro sc d hd z2 hz2 z4 hz4 z5 hz5
  rcases ho with rfl | rfl
  · refine fr_aload_n (pc := 53) dX0_linkWays_53 rfl rfl ?_
    refine fr_getr (a := 2) (pc := 54) dX0_linkWays_54 rfl pf_0_33 s0_2 rfl rf_2_7 ?_
    refine fr_iload_n (pc := 57) dX0_linkWays_57 rfl rfl ?_
    refine fr_iload_n (pc := 58) dX0_linkWays_58 rfl rfl ?_
    obtain ⟨hb1, hq⟩ := hq
    refine fr_iastore (a := 10) (pc := 59) dX0_linkWays_59 rfl s0_10 hb1 nr_10 ?_
    refine fr_aload_n (pc := 60) dX0_linkWays_60 rfl rfl ?_
    refine fr_iload_n (pc := 61) dX0_linkWays_61 rfl rfl ?_
    refine fr_iconst (pc := 62) dX0_linkWays_62 (by decide) ?_
    refine fr_iload_n (pc := 63) dX0_linkWays_63 rfl rfl ?_
    refine fr_iconst (pc := 64) dX0_linkWays_64 (by decide) ?_
    refine fr_iadd (z := w32 (l1 + 1)) (pc := 65) dX0_linkWays_65 rfl ?_
    refine fr_inVI (a := 2) (as := [(0, l1), (0, 0), (0, w32 (l1 + 1))]) (rest := []) (ls' := [(2, 2), (0, l1), (0, 0), (0, w32 (l1 + 1)), (9, 0), (9, 0)]) (c1 := 0) (c2 := 0) (pc := 66) dX0_linkWays_66 pl_0_93 rfl ⟨Nat.le_of_ble_eq_true rfl, Nat.le_of_ble_eq_true rfl⟩ rfl rfl rfl s0_2 (Nat.le_of_ble_eq_true rfl) (by omega) rfl rfl (pm_zc _) (hq sc _ (by omega)) (fun r3 M2 hq => ?_)
    refine fr_istore (ls2 := [(2, 2), (0, l1), z2, (0, l3), (0, r3), z5]) (pc := 69) dX0_linkWays_69 rfl (Nat.le_of_ble_eq_true rfl) rfl ?_
    refine fr_aload_n (pc := 71) dX0_linkWays_71 rfl rfl ?_
    refine fr_getr (a := 2) (pc := 72) dX0_linkWays_72 rfl pf_0_36 s0_2 rfl rf_2_8 ?_
    refine fr_iload_n (pc := 75) dX0_linkWays_75 rfl rfl ?_
    refine fr_iload (pc := 76) dX0_linkWays_76 rfl rfl ?_
    refine fr_iconst (pc := 78) dX0_linkWays_78 (by decide) ?_
    refine fr_icm_eq (tg := 87) (pc := 79) dX0_linkWays_79 rfl hq (fun hc4 hq => ?_) (fun hc4 hq => ?_)
    · refine fr_aload_n (pc := 87) dX0_linkWays_87 rfl rfl ?_
      refine fr_getr (a := 2) (pc := 88) dX0_linkWays_88 rfl pf_0_9 s0_2 rfl rf_2_0 ?_
      refine fr_iload_n (pc := 91) dX0_linkWays_91 rfl rfl ?_
      refine fr_iaload (a := 3) (v := gI M2 (2 + 1) l1) (pc := 92) dX0_linkWays_92 rfl s0_3 hb1 rfl ?_
      refine fr_iconst (pc := 93) dX0_linkWays_93 (by decide) ?_
      refine fr_icm_ne (tg := 101) (pc := 94) dX0_linkWays_94 rfl hq (fun hc5 hq => ?_) (fun hc5 hq => ?_)
      · refine fr_iload_n (pc := 97) dX0_linkWays_97 rfl rfl ?_
        refine fr_goto (tg := 102) (pc := 98) dX0_linkWays_98 rfl ?_
        refine fr_iastore (a := 11) (pc := 102) dX0_linkWays_102 rfl s0_11 hb1 nr_11 ?_
        refine fr_aload_n (pc := 103) dX0_linkWays_103 rfl rfl ?_
        refine fr_iload_n (pc := 104) dX0_linkWays_104 rfl rfl ?_
        refine fr_iconst (pc := 105) dX0_linkWays_105 (by decide) ?_
        refine fr_iload_n (pc := 106) dX0_linkWays_106 rfl rfl ?_
        refine fr_iconst (pc := 107) dX0_linkWays_107 (by decide) ?_
        refine fr_iadd (z := w32 (l1 + 1)) (pc := 108) dX0_linkWays_108 rfl ?_
        refine fr_inVI (a := 2) (as := [(0, l1), (0, 1), (0, w32 (l1 + 1))]) (rest := []) (ls' := [(2, 2), (0, l1), (0, 1), (0, w32 (l1 + 1)), (9, 0), (9, 0)]) (c1 := 0) (c2 := 0) (pc := 109) dX0_linkWays_109 pl_0_93 rfl ⟨Nat.le_of_ble_eq_true rfl, Nat.le_of_ble_eq_true rfl⟩ rfl rfl rfl s0_2 (Nat.le_of_ble_eq_true rfl) (by omega) rfl rfl (pm_zc _) (hq sc _ (by omega)) (fun r7 M6 hq => ?_)
        refine fr_istore (ls2 := [(2, 2), (0, l1), z2, (0, l3), (0, r3), (0, r7)]) (pc := 112) dX0_linkWays_112 rfl (Nat.le_of_ble_eq_true rfl) rfl ?_
        refine fr_aload_n (pc := 114) dX0_linkWays_114 rfl rfl ?_
        refine fr_getr (a := 2) (pc := 115) dX0_linkWays_115 rfl pf_0_39 s0_2 rfl rf_2_9 ?_
        refine fr_iload_n (pc := 118) dX0_linkWays_118 rfl rfl ?_
        refine fr_iload (pc := 119) dX0_linkWays_119 rfl rfl ?_
        refine fr_iconst (pc := 121) dX0_linkWays_121 (by decide) ?_
        refine fr_icm_eq (tg := 130) (pc := 122) dX0_linkWays_122 rfl hq (fun hc8 hq => ?_) (fun hc8 hq => ?_)
        · refine fr_iload_n (pc := 130) dX0_linkWays_130 rfl rfl ?_
          refine fr_iastore (a := 12) (pc := 131) dX0_linkWays_131 rfl s0_12 hb1 nr_12 ?_
          exact fr_vret (pc := 132) dX0_linkWays_132 rfl hq
        · refine fr_iload (pc := 125) dX0_linkWays_125 rfl rfl ?_
          refine fr_goto (tg := 131) (pc := 127) dX0_linkWays_127 rfl ?_
          refine fr_iastore (a := 12) (pc := 131) dX0_linkWays_131 rfl s0_12 hb1 nr_12 ?_
          exact fr_vret (pc := 132) dX0_linkWays_132 rfl hq
      · refine fr_iload_n (pc := 101) dX0_linkWays_101 rfl rfl ?_
        refine fr_iastore (a := 11) (pc := 102) dX0_linkWays_102 rfl s0_11 hb1 nr_11 ?_
        refine fr_aload_n (pc := 103) dX0_linkWays_103 rfl rfl ?_
        refine fr_iload_n (pc := 104) dX0_linkWays_104 rfl rfl ?_
        refine fr_iconst (pc := 105) dX0_linkWays_105 (by decide) ?_
        refine fr_iload_n (pc := 106) dX0_linkWays_106 rfl rfl ?_
        refine fr_iconst (pc := 107) dX0_linkWays_107 (by decide) ?_
        refine fr_iadd (z := w32 (l1 + 1)) (pc := 108) dX0_linkWays_108 rfl ?_
        refine fr_inVI (a := 2) (as := [(0, l1), (0, 1), (0, w32 (l1 + 1))]) (rest := []) (ls' := [(2, 2), (0, l1), (0, 1), (0, w32 (l1 + 1)), (9, 0), (9, 0)]) (c1 := 0) (c2 := 0) (pc := 109) dX0_linkWays_109 pl_0_93 rfl ⟨Nat.le_of_ble_eq_true rfl, Nat.le_of_ble_eq_true rfl⟩ rfl rfl rfl s0_2 (Nat.le_of_ble_eq_true rfl) (by omega) rfl rfl (pm_zc _) (hq sc _ (by omega)) (fun r10 M9 hq => ?_)
        refine fr_istore (ls2 := [(2, 2), (0, l1), z2, (0, l3), (0, r3), (0, r10)]) (pc := 112) dX0_linkWays_112 rfl (Nat.le_of_ble_eq_true rfl) rfl ?_
        refine fr_aload_n (pc := 114) dX0_linkWays_114 rfl rfl ?_
        refine fr_getr (a := 2) (pc := 115) dX0_linkWays_115 rfl pf_0_39 s0_2 rfl rf_2_9 ?_
        refine fr_iload_n (pc := 118) dX0_linkWays_118 rfl rfl ?_
        refine fr_iload (pc := 119) dX0_linkWays_119 rfl rfl ?_
        refine fr_iconst (pc := 121) dX0_linkWays_121 (by decide) ?_
        refine fr_icm_eq (tg := 130) (pc := 122) dX0_linkWays_122 rfl hq (fun hc11 hq => ?_) (fun hc11 hq => ?_)
        · refine fr_iload_n (pc := 130) dX0_linkWays_130 rfl rfl ?_
          refine fr_iastore (a := 12) (pc := 131) dX0_linkWays_131 rfl s0_12 hb1 nr_12 ?_
          exact fr_vret (pc := 132) dX0_linkWays_132 rfl hq
        · refine fr_iload (pc := 125) dX0_linkWays_125 rfl rfl ?_
          refine fr_goto (tg := 131) (pc := 127) dX0_linkWays_127 rfl ?_
          refine fr_iastore (a := 12) (pc := 131) dX0_linkWays_131 rfl s0_12 hb1 nr_12 ?_
          exact fr_vret (pc := 132) dX0_linkWays_132 rfl hq
    · refine fr_iload (pc := 82) dX0_linkWays_82 rfl rfl ?_
      refine fr_goto (tg := 102) (pc := 84) dX0_linkWays_84 rfl ?_
      refine fr_iastore (a := 11) (pc := 102) dX0_linkWays_102 rfl s0_11 hb1 nr_11 ?_
      refine fr_aload_n (pc := 103) dX0_linkWays_103 rfl rfl ?_
      refine fr_iload_n (pc := 104) dX0_linkWays_104 rfl rfl ?_
      refine fr_iconst (pc := 105) dX0_linkWays_105 (by decide) ?_
      refine fr_iload_n (pc := 106) dX0_linkWays_106 rfl rfl ?_
      refine fr_iconst (pc := 107) dX0_linkWays_107 (by decide) ?_
      refine fr_iadd (z := w32 (l1 + 1)) (pc := 108) dX0_linkWays_108 rfl ?_
      refine fr_inVI (a := 2) (as := [(0, l1), (0, 1), (0, w32 (l1 + 1))]) (rest := []) (ls' := [(2, 2), (0, l1), (0, 1), (0, w32 (l1 + 1)), (9, 0), (9, 0)]) (c1 := 0) (c2 := 0) (pc := 109) dX0_linkWays_109 pl_0_93 rfl ⟨Nat.le_of_ble_eq_true rfl, Nat.le_of_ble_eq_true rfl⟩ rfl rfl rfl s0_2 (Nat.le_of_ble_eq_true rfl) (by omega) rfl rfl (pm_zc _) (hq sc _ (by omega)) (fun r13 M12 hq => ?_)
      refine fr_istore (ls2 := [(2, 2), (0, l1), z2, (0, l3), (0, r3), (0, r13)]) (pc := 112) dX0_linkWays_112 rfl (Nat.le_of_ble_eq_true rfl) rfl ?_
      refine fr_aload_n (pc := 114) dX0_linkWays_114 rfl rfl ?_
      refine fr_getr (a := 2) (pc := 115) dX0_linkWays_115 rfl pf_0_39 s0_2 rfl rf_2_9 ?_
      refine fr_iload_n (pc := 118) dX0_linkWays_118 rfl rfl ?_
      refine fr_iload (pc := 119) dX0_linkWays_119 rfl rfl ?_
      refine fr_iconst (pc := 121) dX0_linkWays_121 (by decide) ?_
      refine fr_icm_eq (tg := 130) (pc := 122) dX0_linkWays_122 rfl hq (fun hc14 hq => ?_) (fun hc14 hq => ?_)
      · refine fr_iload_n (pc := 130) dX0_linkWays_130 rfl rfl ?_
        refine fr_iastore (a := 12) (pc := 131) dX0_linkWays_131 rfl s0_12 hb1 nr_12 ?_
        exact fr_vret (pc := 132) dX0_linkWays_132 rfl hq
      · refine fr_iload (pc := 125) dX0_linkWays_125 rfl rfl ?_
        refine fr_goto (tg := 131) (pc := 127) dX0_linkWays_127 rfl ?_
        refine fr_iastore (a := 12) (pc := 131) dX0_linkWays_131 rfl s0_12 hb1 nr_12 ?_
        exact fr_vret (pc := 132) dX0_linkWays_132 rfl hq
  · refine fr_aload_n (pc := 53) dX0_linkWays_53 rfl rfl ?_
    refine fr_getr (a := 36) (pc := 54) dX0_linkWays_54 rfl pf_0_33 s0_36 rfl rf_36_7 ?_
    refine fr_iload_n (pc := 57) dX0_linkWays_57 rfl rfl ?_
    refine fr_iload_n (pc := 58) dX0_linkWays_58 rfl rfl ?_
    obtain ⟨hb1, hq⟩ := hq
    refine fr_iastore (a := 44) (pc := 59) dX0_linkWays_59 rfl s0_44 hb1 nr_44 ?_
    refine fr_aload_n (pc := 60) dX0_linkWays_60 rfl rfl ?_
    refine fr_iload_n (pc := 61) dX0_linkWays_61 rfl rfl ?_
    refine fr_iconst (pc := 62) dX0_linkWays_62 (by decide) ?_
    refine fr_iload_n (pc := 63) dX0_linkWays_63 rfl rfl ?_
    refine fr_iconst (pc := 64) dX0_linkWays_64 (by decide) ?_
    refine fr_iadd (z := w32 (l1 + 1)) (pc := 65) dX0_linkWays_65 rfl ?_
    refine fr_inVI (a := 36) (as := [(0, l1), (0, 0), (0, w32 (l1 + 1))]) (rest := []) (ls' := [(2, 36), (0, l1), (0, 0), (0, w32 (l1 + 1)), (9, 0), (9, 0)]) (c1 := 0) (c2 := 0) (pc := 66) dX0_linkWays_66 pl_0_93 rfl ⟨Nat.le_of_ble_eq_true rfl, Nat.le_of_ble_eq_true rfl⟩ rfl rfl rfl s0_36 (Nat.le_of_ble_eq_true rfl) (by omega) rfl rfl (pm_zc _) (hq sc _ (by omega)) (fun r3 M2 hq => ?_)
    refine fr_istore (ls2 := [(2, 36), (0, l1), z2, (0, l3), (0, r3), z5]) (pc := 69) dX0_linkWays_69 rfl (Nat.le_of_ble_eq_true rfl) rfl ?_
    refine fr_aload_n (pc := 71) dX0_linkWays_71 rfl rfl ?_
    refine fr_getr (a := 36) (pc := 72) dX0_linkWays_72 rfl pf_0_36 s0_36 rfl rf_36_8 ?_
    refine fr_iload_n (pc := 75) dX0_linkWays_75 rfl rfl ?_
    refine fr_iload (pc := 76) dX0_linkWays_76 rfl rfl ?_
    refine fr_iconst (pc := 78) dX0_linkWays_78 (by decide) ?_
    refine fr_icm_eq (tg := 87) (pc := 79) dX0_linkWays_79 rfl hq (fun hc4 hq => ?_) (fun hc4 hq => ?_)
    · refine fr_aload_n (pc := 87) dX0_linkWays_87 rfl rfl ?_
      refine fr_getr (a := 36) (pc := 88) dX0_linkWays_88 rfl pf_0_9 s0_36 rfl rf_36_0 ?_
      refine fr_iload_n (pc := 91) dX0_linkWays_91 rfl rfl ?_
      refine fr_iaload (a := 37) (v := gI M2 (36 + 1) l1) (pc := 92) dX0_linkWays_92 rfl s0_37 hb1 rfl ?_
      refine fr_iconst (pc := 93) dX0_linkWays_93 (by decide) ?_
      refine fr_icm_ne (tg := 101) (pc := 94) dX0_linkWays_94 rfl hq (fun hc5 hq => ?_) (fun hc5 hq => ?_)
      · refine fr_iload_n (pc := 97) dX0_linkWays_97 rfl rfl ?_
        refine fr_goto (tg := 102) (pc := 98) dX0_linkWays_98 rfl ?_
        refine fr_iastore (a := 45) (pc := 102) dX0_linkWays_102 rfl s0_45 hb1 nr_45 ?_
        refine fr_aload_n (pc := 103) dX0_linkWays_103 rfl rfl ?_
        refine fr_iload_n (pc := 104) dX0_linkWays_104 rfl rfl ?_
        refine fr_iconst (pc := 105) dX0_linkWays_105 (by decide) ?_
        refine fr_iload_n (pc := 106) dX0_linkWays_106 rfl rfl ?_
        refine fr_iconst (pc := 107) dX0_linkWays_107 (by decide) ?_
        refine fr_iadd (z := w32 (l1 + 1)) (pc := 108) dX0_linkWays_108 rfl ?_
        refine fr_inVI (a := 36) (as := [(0, l1), (0, 1), (0, w32 (l1 + 1))]) (rest := []) (ls' := [(2, 36), (0, l1), (0, 1), (0, w32 (l1 + 1)), (9, 0), (9, 0)]) (c1 := 0) (c2 := 0) (pc := 109) dX0_linkWays_109 pl_0_93 rfl ⟨Nat.le_of_ble_eq_true rfl, Nat.le_of_ble_eq_true rfl⟩ rfl rfl rfl s0_36 (Nat.le_of_ble_eq_true rfl) (by omega) rfl rfl (pm_zc _) (hq sc _ (by omega)) (fun r7 M6 hq => ?_)
        refine fr_istore (ls2 := [(2, 36), (0, l1), z2, (0, l3), (0, r3), (0, r7)]) (pc := 112) dX0_linkWays_112 rfl (Nat.le_of_ble_eq_true rfl) rfl ?_
        refine fr_aload_n (pc := 114) dX0_linkWays_114 rfl rfl ?_
        refine fr_getr (a := 36) (pc := 115) dX0_linkWays_115 rfl pf_0_39 s0_36 rfl rf_36_9 ?_
        refine fr_iload_n (pc := 118) dX0_linkWays_118 rfl rfl ?_
        refine fr_iload (pc := 119) dX0_linkWays_119 rfl rfl ?_
        refine fr_iconst (pc := 121) dX0_linkWays_121 (by decide) ?_
        refine fr_icm_eq (tg := 130) (pc := 122) dX0_linkWays_122 rfl hq (fun hc8 hq => ?_) (fun hc8 hq => ?_)
        · refine fr_iload_n (pc := 130) dX0_linkWays_130 rfl rfl ?_
          refine fr_iastore (a := 46) (pc := 131) dX0_linkWays_131 rfl s0_46 hb1 nr_46 ?_
          exact fr_vret (pc := 132) dX0_linkWays_132 rfl hq
        · refine fr_iload (pc := 125) dX0_linkWays_125 rfl rfl ?_
          refine fr_goto (tg := 131) (pc := 127) dX0_linkWays_127 rfl ?_
          refine fr_iastore (a := 46) (pc := 131) dX0_linkWays_131 rfl s0_46 hb1 nr_46 ?_
          exact fr_vret (pc := 132) dX0_linkWays_132 rfl hq
      · refine fr_iload_n (pc := 101) dX0_linkWays_101 rfl rfl ?_
        refine fr_iastore (a := 45) (pc := 102) dX0_linkWays_102 rfl s0_45 hb1 nr_45 ?_
        refine fr_aload_n (pc := 103) dX0_linkWays_103 rfl rfl ?_
        refine fr_iload_n (pc := 104) dX0_linkWays_104 rfl rfl ?_
        refine fr_iconst (pc := 105) dX0_linkWays_105 (by decide) ?_
        refine fr_iload_n (pc := 106) dX0_linkWays_106 rfl rfl ?_
        refine fr_iconst (pc := 107) dX0_linkWays_107 (by decide) ?_
        refine fr_iadd (z := w32 (l1 + 1)) (pc := 108) dX0_linkWays_108 rfl ?_
        refine fr_inVI (a := 36) (as := [(0, l1), (0, 1), (0, w32 (l1 + 1))]) (rest := []) (ls' := [(2, 36), (0, l1), (0, 1), (0, w32 (l1 + 1)), (9, 0), (9, 0)]) (c1 := 0) (c2 := 0) (pc := 109) dX0_linkWays_109 pl_0_93 rfl ⟨Nat.le_of_ble_eq_true rfl, Nat.le_of_ble_eq_true rfl⟩ rfl rfl rfl s0_36 (Nat.le_of_ble_eq_true rfl) (by omega) rfl rfl (pm_zc _) (hq sc _ (by omega)) (fun r10 M9 hq => ?_)
        refine fr_istore (ls2 := [(2, 36), (0, l1), z2, (0, l3), (0, r3), (0, r10)]) (pc := 112) dX0_linkWays_112 rfl (Nat.le_of_ble_eq_true rfl) rfl ?_
        refine fr_aload_n (pc := 114) dX0_linkWays_114 rfl rfl ?_
        refine fr_getr (a := 36) (pc := 115) dX0_linkWays_115 rfl pf_0_39 s0_36 rfl rf_36_9 ?_
        refine fr_iload_n (pc := 118) dX0_linkWays_118 rfl rfl ?_
        refine fr_iload (pc := 119) dX0_linkWays_119 rfl rfl ?_
        refine fr_iconst (pc := 121) dX0_linkWays_121 (by decide) ?_
        refine fr_icm_eq (tg := 130) (pc := 122) dX0_linkWays_122 rfl hq (fun hc11 hq => ?_) (fun hc11 hq => ?_)
        · refine fr_iload_n (pc := 130) dX0_linkWays_130 rfl rfl ?_
          refine fr_iastore (a := 46) (pc := 131) dX0_linkWays_131 rfl s0_46 hb1 nr_46 ?_
          exact fr_vret (pc := 132) dX0_linkWays_132 rfl hq
        · refine fr_iload (pc := 125) dX0_linkWays_125 rfl rfl ?_
          refine fr_goto (tg := 131) (pc := 127) dX0_linkWays_127 rfl ?_
          refine fr_iastore (a := 46) (pc := 131) dX0_linkWays_131 rfl s0_46 hb1 nr_46 ?_
          exact fr_vret (pc := 132) dX0_linkWays_132 rfl hq
    · refine fr_iload (pc := 82) dX0_linkWays_82 rfl rfl ?_
      refine fr_goto (tg := 102) (pc := 84) dX0_linkWays_84 rfl ?_
      refine fr_iastore (a := 45) (pc := 102) dX0_linkWays_102 rfl s0_45 hb1 nr_45 ?_
      refine fr_aload_n (pc := 103) dX0_linkWays_103 rfl rfl ?_
      refine fr_iload_n (pc := 104) dX0_linkWays_104 rfl rfl ?_
      refine fr_iconst (pc := 105) dX0_linkWays_105 (by decide) ?_
      refine fr_iload_n (pc := 106) dX0_linkWays_106 rfl rfl ?_
      refine fr_iconst (pc := 107) dX0_linkWays_107 (by decide) ?_
      refine fr_iadd (z := w32 (l1 + 1)) (pc := 108) dX0_linkWays_108 rfl ?_
      refine fr_inVI (a := 36) (as := [(0, l1), (0, 1), (0, w32 (l1 + 1))]) (rest := []) (ls' := [(2, 36), (0, l1), (0, 1), (0, w32 (l1 + 1)), (9, 0), (9, 0)]) (c1 := 0) (c2 := 0) (pc := 109) dX0_linkWays_109 pl_0_93 rfl ⟨Nat.le_of_ble_eq_true rfl, Nat.le_of_ble_eq_true rfl⟩ rfl rfl rfl s0_36 (Nat.le_of_ble_eq_true rfl) (by omega) rfl rfl (pm_zc _) (hq sc _ (by omega)) (fun r13 M12 hq => ?_)
      refine fr_istore (ls2 := [(2, 36), (0, l1), z2, (0, l3), (0, r3), (0, r13)]) (pc := 112) dX0_linkWays_112 rfl (Nat.le_of_ble_eq_true rfl) rfl ?_
      refine fr_aload_n (pc := 114) dX0_linkWays_114 rfl rfl ?_
      refine fr_getr (a := 36) (pc := 115) dX0_linkWays_115 rfl pf_0_39 s0_36 rfl rf_36_9 ?_
      refine fr_iload_n (pc := 118) dX0_linkWays_118 rfl rfl ?_
      refine fr_iload (pc := 119) dX0_linkWays_119 rfl rfl ?_
      refine fr_iconst (pc := 121) dX0_linkWays_121 (by decide) ?_
      refine fr_icm_eq (tg := 130) (pc := 122) dX0_linkWays_122 rfl hq (fun hc14 hq => ?_) (fun hc14 hq => ?_)
      · refine fr_iload_n (pc := 130) dX0_linkWays_130 rfl rfl ?_
        refine fr_iastore (a := 46) (pc := 131) dX0_linkWays_131 rfl s0_46 hb1 nr_46 ?_
        exact fr_vret (pc := 132) dX0_linkWays_132 rfl hq
      · refine fr_iload (pc := 125) dX0_linkWays_125 rfl rfl ?_
        refine fr_goto (tg := 131) (pc := 127) dX0_linkWays_127 rfl ?_
        refine fr_iastore (a := 46) (pc := 131) dX0_linkWays_131 rfl s0_46 hb1 nr_46 ?_
        exact fr_vret (pc := 132) dX0_linkWays_132 rfl hq
theorem k0_firstIn_r {o : Nat} {a1 a2 a3 : Int} {M : pm_M} {K : Int → pm_M → Prop} (ho : o = 2 ∨ o = 36) (hq : k0_firstIn_3 o a1 a2 a3 0 M K) : k0_firstIn o a1 a2 a3 M K := by
  intro sc d hd
  rcases ho with rfl | rfl
  · refine fr_iconst (pc := 0) dX0_firstIn_0 (by decide) ?_
    refine fr_istore (ls2 := [(2, 2), (0, a1), (0, a2), (0, a3), (0, 0), (9, 0)]) (pc := 1) dX0_firstIn_1 rfl (Nat.le_of_ble_eq_true rfl) rfl ?_
    exact hq sc d hd (9, 0) pm_t9
  · refine fr_iconst (pc := 0) dX0_firstIn_0 (by decide) ?_
    refine fr_istore (ls2 := [(2, 36), (0, a1), (0, a2), (0, a3), (0, 0), (9, 0)]) (pc := 1) dX0_firstIn_1 rfl (Nat.le_of_ble_eq_true rfl) rfl ?_
    exact hq sc d hd (9, 0) pm_t9
theorem k0_firstIn_3_r {o : Nat} {l1 l2 l3 l4 : Int} {M : pm_M} {K : Int → pm_M → Prop} (ho : o = 2 ∨ o = 36) (hq : (if l4 < gI M o 16 then ((0 ≤ l4 ∧ l4 < 20) ∧ (if gI M (o + 12) l4 < l3 then k0_firstIn_3 o l1 l2 l3 (w32 (l4 + 1)) M K else ((0 ≤ gI M (o + 12) l4 ∧ gI M (o + 12) l4 < 60) ∧ (if gI M (o + 4) (gI M (o + 12) l4) = l1 then (if gI M (o + 11) (gI M (o + 12) l4) = l2 then K (gI M (o + 12) l4) M else k0_firstIn_3 o l1 l2 l3 (w32 (l4 + 1)) M K) else k0_firstIn_3 o l1 l2 l3 (w32 (l4 + 1)) M K)))) else K (-1) M)) : k0_firstIn_3 o l1 l2 l3 l4 M K := by
  intro sc d hd z5 hz5
  rcases ho with rfl | rfl
  · refine fr_iload (pc := 3) dX0_firstIn_3 rfl rfl ?_
    refine fr_aload_n (pc := 5) dX0_firstIn_5 rfl rfl ?_
    refine fr_getf (a := 2) (i := 16) (v := gI M 2 16) (t := 0) (pc := 6) dX0_firstIn_6 rfl pf_0_61 rfl s0_2 rfl rfl ?_
    refine fr_icm_ge (tg := 58) (pc := 9) dX0_firstIn_9 rfl hq (fun hc1 hq => ?_) (fun hc1 hq => ?_)
    · refine fr_aload_n (pc := 12) dX0_firstIn_12 rfl rfl ?_
      refine fr_getr (a := 2) (pc := 13) dX0_firstIn_13 rfl pf_0_45 s0_2 rfl rf_2_11 ?_
      refine fr_iload (pc := 16) dX0_firstIn_16 rfl rfl ?_
      obtain ⟨hb2, hq⟩ := hq
      refine fr_iaload (a := 14) (v := gI M (2 + 12) l4) (pc := 18) dX0_firstIn_18 rfl s0_14 hb2 rfl ?_
      refine fr_istore (ls2 := [(2, 2), (0, l1), (0, l2), (0, l3), (0, l4), (0, gI M (2 + 12) l4)]) (pc := 19) dX0_firstIn_19 rfl (Nat.le_of_ble_eq_true rfl) rfl ?_
      refine fr_iload (pc := 21) dX0_firstIn_21 rfl rfl ?_
      refine fr_iload_n (pc := 23) dX0_firstIn_23 rfl rfl ?_
      refine fr_icm_lt (tg := 52) (pc := 24) dX0_firstIn_24 rfl hq (fun hc3 hq => ?_) (fun hc3 hq => ?_)
      · refine fr_iinc (z := w32 (l4 + 1)) (ls2 := [(2, 2), (0, l1), (0, l2), (0, l3), (0, w32 (l4 + 1)), (0, gI M (2 + 12) l4)]) (pc := 52) dX0_firstIn_52 (Nat.le_of_ble_eq_true rfl) rfl rfl rfl ?_
        refine fr_goto (tg := 3) (pc := 55) dX0_firstIn_55 rfl ?_
        exact hq sc d hd (0, gI M (2 + 12) l4) pm_t0
      · refine fr_aload_n (pc := 27) dX0_firstIn_27 rfl rfl ?_
        refine fr_getr (a := 2) (pc := 28) dX0_firstIn_28 rfl pf_0_21 s0_2 rfl rf_2_3 ?_
        refine fr_iload (pc := 31) dX0_firstIn_31 rfl rfl ?_
        obtain ⟨hb4, hq⟩ := hq
        refine fr_iaload (a := 6) (v := gI M (2 + 4) (gI M (2 + 12) l4)) (pc := 33) dX0_firstIn_33 rfl s0_6 hb4 rfl ?_
        refine fr_iload_n (pc := 34) dX0_firstIn_34 rfl rfl ?_
        refine fr_icm_ne (tg := 52) (pc := 35) dX0_firstIn_35 rfl hq (fun hc5 hq => ?_) (fun hc5 hq => ?_)
        · refine fr_aload_n (pc := 38) dX0_firstIn_38 rfl rfl ?_
          refine fr_getr (a := 2) (pc := 39) dX0_firstIn_39 rfl pf_0_42 s0_2 rfl rf_2_10 ?_
          refine fr_iload (pc := 42) dX0_firstIn_42 rfl rfl ?_
          refine fr_iaload (a := 13) (v := gI M (2 + 11) (gI M (2 + 12) l4)) (pc := 44) dX0_firstIn_44 rfl s0_13 hb4 rfl ?_
          refine fr_iload_n (pc := 45) dX0_firstIn_45 rfl rfl ?_
          refine fr_icm_ne (tg := 52) (pc := 46) dX0_firstIn_46 rfl hq (fun hc6 hq => ?_) (fun hc6 hq => ?_)
          · refine fr_iload (pc := 49) dX0_firstIn_49 rfl rfl ?_
            exact fr_iret (pc := 51) dX0_firstIn_51 (Or.inl rfl) hq
          · refine fr_iinc (z := w32 (l4 + 1)) (ls2 := [(2, 2), (0, l1), (0, l2), (0, l3), (0, w32 (l4 + 1)), (0, gI M (2 + 12) l4)]) (pc := 52) dX0_firstIn_52 (Nat.le_of_ble_eq_true rfl) rfl rfl rfl ?_
            refine fr_goto (tg := 3) (pc := 55) dX0_firstIn_55 rfl ?_
            exact hq sc d hd (0, gI M (2 + 12) l4) pm_t0
        · refine fr_iinc (z := w32 (l4 + 1)) (ls2 := [(2, 2), (0, l1), (0, l2), (0, l3), (0, w32 (l4 + 1)), (0, gI M (2 + 12) l4)]) (pc := 52) dX0_firstIn_52 (Nat.le_of_ble_eq_true rfl) rfl rfl rfl ?_
          refine fr_goto (tg := 3) (pc := 55) dX0_firstIn_55 rfl ?_
          exact hq sc d hd (0, gI M (2 + 12) l4) pm_t0
    · refine fr_iconst (pc := 58) dX0_firstIn_58 (by decide) ?_
      exact fr_iret (pc := 59) dX0_firstIn_59 (Or.inl rfl) hq
  · refine fr_iload (pc := 3) dX0_firstIn_3 rfl rfl ?_
    refine fr_aload_n (pc := 5) dX0_firstIn_5 rfl rfl ?_
    refine fr_getf (a := 36) (i := 16) (v := gI M 36 16) (t := 0) (pc := 6) dX0_firstIn_6 rfl pf_0_61 rfl s0_36 rfl rfl ?_
    refine fr_icm_ge (tg := 58) (pc := 9) dX0_firstIn_9 rfl hq (fun hc1 hq => ?_) (fun hc1 hq => ?_)
    · refine fr_aload_n (pc := 12) dX0_firstIn_12 rfl rfl ?_
      refine fr_getr (a := 36) (pc := 13) dX0_firstIn_13 rfl pf_0_45 s0_36 rfl rf_36_11 ?_
      refine fr_iload (pc := 16) dX0_firstIn_16 rfl rfl ?_
      obtain ⟨hb2, hq⟩ := hq
      refine fr_iaload (a := 48) (v := gI M (36 + 12) l4) (pc := 18) dX0_firstIn_18 rfl s0_48 hb2 rfl ?_
      refine fr_istore (ls2 := [(2, 36), (0, l1), (0, l2), (0, l3), (0, l4), (0, gI M (36 + 12) l4)]) (pc := 19) dX0_firstIn_19 rfl (Nat.le_of_ble_eq_true rfl) rfl ?_
      refine fr_iload (pc := 21) dX0_firstIn_21 rfl rfl ?_
      refine fr_iload_n (pc := 23) dX0_firstIn_23 rfl rfl ?_
      refine fr_icm_lt (tg := 52) (pc := 24) dX0_firstIn_24 rfl hq (fun hc3 hq => ?_) (fun hc3 hq => ?_)
      · refine fr_iinc (z := w32 (l4 + 1)) (ls2 := [(2, 36), (0, l1), (0, l2), (0, l3), (0, w32 (l4 + 1)), (0, gI M (36 + 12) l4)]) (pc := 52) dX0_firstIn_52 (Nat.le_of_ble_eq_true rfl) rfl rfl rfl ?_
        refine fr_goto (tg := 3) (pc := 55) dX0_firstIn_55 rfl ?_
        exact hq sc d hd (0, gI M (36 + 12) l4) pm_t0
      · refine fr_aload_n (pc := 27) dX0_firstIn_27 rfl rfl ?_
        refine fr_getr (a := 36) (pc := 28) dX0_firstIn_28 rfl pf_0_21 s0_36 rfl rf_36_3 ?_
        refine fr_iload (pc := 31) dX0_firstIn_31 rfl rfl ?_
        obtain ⟨hb4, hq⟩ := hq
        refine fr_iaload (a := 40) (v := gI M (36 + 4) (gI M (36 + 12) l4)) (pc := 33) dX0_firstIn_33 rfl s0_40 hb4 rfl ?_
        refine fr_iload_n (pc := 34) dX0_firstIn_34 rfl rfl ?_
        refine fr_icm_ne (tg := 52) (pc := 35) dX0_firstIn_35 rfl hq (fun hc5 hq => ?_) (fun hc5 hq => ?_)
        · refine fr_aload_n (pc := 38) dX0_firstIn_38 rfl rfl ?_
          refine fr_getr (a := 36) (pc := 39) dX0_firstIn_39 rfl pf_0_42 s0_36 rfl rf_36_10 ?_
          refine fr_iload (pc := 42) dX0_firstIn_42 rfl rfl ?_
          refine fr_iaload (a := 47) (v := gI M (36 + 11) (gI M (36 + 12) l4)) (pc := 44) dX0_firstIn_44 rfl s0_47 hb4 rfl ?_
          refine fr_iload_n (pc := 45) dX0_firstIn_45 rfl rfl ?_
          refine fr_icm_ne (tg := 52) (pc := 46) dX0_firstIn_46 rfl hq (fun hc6 hq => ?_) (fun hc6 hq => ?_)
          · refine fr_iload (pc := 49) dX0_firstIn_49 rfl rfl ?_
            exact fr_iret (pc := 51) dX0_firstIn_51 (Or.inl rfl) hq
          · refine fr_iinc (z := w32 (l4 + 1)) (ls2 := [(2, 36), (0, l1), (0, l2), (0, l3), (0, w32 (l4 + 1)), (0, gI M (36 + 12) l4)]) (pc := 52) dX0_firstIn_52 (Nat.le_of_ble_eq_true rfl) rfl rfl rfl ?_
            refine fr_goto (tg := 3) (pc := 55) dX0_firstIn_55 rfl ?_
            exact hq sc d hd (0, gI M (36 + 12) l4) pm_t0
        · refine fr_iinc (z := w32 (l4 + 1)) (ls2 := [(2, 36), (0, l1), (0, l2), (0, l3), (0, w32 (l4 + 1)), (0, gI M (36 + 12) l4)]) (pc := 52) dX0_firstIn_52 (Nat.le_of_ble_eq_true rfl) rfl rfl rfl ?_
          refine fr_goto (tg := 3) (pc := 55) dX0_firstIn_55 rfl ?_
          exact hq sc d hd (0, gI M (36 + 12) l4) pm_t0
    · refine fr_iconst (pc := 58) dX0_firstIn_58 (by decide) ?_
      exact fr_iret (pc := 59) dX0_firstIn_59 (Or.inl rfl) hq
theorem k11_tests_r {a1 : Int} {M : pm_M} {K : Int → pm_M → Prop} (hq : (if a1 < 0 then K (-1) M else (if a1 ≤ gI M 0 1 then k9_read 52 a1 (upI M 0 1 0) (fun r4 M3 => (if r4 = 0 then k9_read 18 a1 M3 (fun r7 M6 => K (gI M6 18 1) (upI (upI (upI (upI M6 0 14 0) 132 11 0) 138 14 0) 141 3 (-1))) else K (w32 ((-2) - r4)) M3)) else K (-1) M))) : k11_tests a1 M K := by
  intro sc d hd
  refine fr_iload_n (pc := 0) dX11_tests_0 rfl rfl ?_
  refine fr_ifc_lt (tg := 12) (pc := 1) dX11_tests_1 rfl hq (fun hc1 hq => ?_) (fun hc1 hq => ?_)
  · refine fr_iconst (pc := 12) dX11_tests_12 (by decide) ?_
    exact fr_iret (pc := 13) dX11_tests_13 (Or.inl rfl) hq
  · refine fr_iload_n (pc := 4) dX11_tests_4 rfl rfl ?_
    refine fr_aload_n (pc := 5) dX11_tests_5 rfl rfl ?_
    refine fr_getf (a := 0) (i := 1) (v := gI M 0 1) (t := 0) (pc := 6) dX11_tests_6 rfl pf_11_106 rfl s0_0 rfl rfl ?_
    refine fr_icm_le (tg := 14) (pc := 9) dX11_tests_9 rfl hq (fun hc2 hq => ?_) (fun hc2 hq => ?_)
    · refine fr_aload_n (pc := 14) dX11_tests_14 rfl rfl ?_
      refine fr_iconst (pc := 15) dX11_tests_15 (by decide) ?_
      refine fr_put (a := 0) (i := 1) (pc := 16) dX11_tests_16 rfl pf_11_106 rfl s0_0 rfl rfl nf_0_1 rfl ?_
      refine fr_aload_n (pc := 19) dX11_tests_19 rfl rfl ?_
      refine fr_getr (a := 0) (pc := 20) dX11_tests_20 rfl pf_11_50 s0_0 rfl rf_0_3 ?_
      refine fr_iload_n (pc := 23) dX11_tests_23 rfl rfl ?_
      refine fr_aload_n (pc := 24) dX11_tests_24 rfl rfl ?_
      refine fr_getr (a := 0) (pc := 25) dX11_tests_25 rfl pf_11_30 s0_0 rfl rf_0_7 ?_
      refine fr_inVI (a := 72) (as := [(0, a1), (2, 52)]) (rest := []) (ls' := [(2, 72), (0, a1), (2, 52), (9, 0)]) (c1 := 0) (c2 := 0) (pc := 28) dX11_tests_28 pl_11_124 rfl ⟨Nat.le_of_ble_eq_true rfl, Nat.le_of_ble_eq_true rfl⟩ rfl rfl rfl s0_72 (Nat.le_of_ble_eq_true rfl) (by omega) rfl rfl (pm_zc _) (hq sc _ (by omega)) (fun r4 M3 hq => ?_)
      refine fr_istore_n (ls2 := [(2, 0), (0, a1), (0, r4)]) (pc := 31) dX11_tests_31 rfl (Nat.le_of_ble_eq_true rfl) rfl ?_
      refine fr_iload_n (pc := 32) dX11_tests_32 rfl rfl ?_
      refine fr_ifc_eq (tg := 41) (pc := 33) dX11_tests_33 rfl hq (fun hc5 hq => ?_) (fun hc5 hq => ?_)
      · refine fr_aload_n (pc := 41) dX11_tests_41 rfl rfl ?_
        refine fr_getr (a := 0) (pc := 42) dX11_tests_42 rfl pf_11_50 s0_0 rfl rf_0_3 ?_
        refine fr_iload_n (pc := 45) dX11_tests_45 rfl rfl ?_
        refine fr_aload_n (pc := 46) dX11_tests_46 rfl rfl ?_
        refine fr_getr (a := 0) (pc := 47) dX11_tests_47 rfl pf_11_23 s0_0 rfl rf_0_5 ?_
        refine fr_inVI (a := 72) (as := [(0, a1), (2, 18)]) (rest := []) (ls' := [(2, 72), (0, a1), (2, 18), (9, 0)]) (c1 := 0) (c2 := 0) (pc := 50) dX11_tests_50 pl_11_124 rfl ⟨Nat.le_of_ble_eq_true rfl, Nat.le_of_ble_eq_true rfl⟩ rfl rfl rfl s0_72 (Nat.le_of_ble_eq_true rfl) (by omega) rfl rfl (pm_zc _) (hq sc _ (by omega)) (fun r7 M6 hq => ?_)
        refine fr_pop (pc := 53) dX11_tests_53 pm_t0 ?_
        refine fr_aload_n (pc := 54) dX11_tests_54 rfl rfl ?_
        refine fr_inVV (a := 0) (as := []) (rest := []) (ls' := [(2, 0)]) (c1 := 0) (c2 := 0) (pc := 55) dX11_tests_55 pl_11_118 rfl ⟨Nat.le_of_ble_eq_true rfl, Nat.le_of_ble_eq_true rfl⟩ rfl rfl rfl s0_0 (Nat.le_of_ble_eq_true rfl) (by omega) rfl rfl (pm_zc _) ?_ (fun M' h => h)
        refine fr_aload_n (pc := 0) dX11_forgetAnswers_0 rfl rfl ?_
        refine fr_iconst (pc := 1) dX11_forgetAnswers_1 (by decide) ?_
        refine fr_put (a := 0) (i := 14) (pc := 2) dX11_forgetAnswers_2 rfl pf_11_328 rfl s0_0 rfl rfl nf_0_14 rfl ?_
        refine fr_aload_n (pc := 5) dX11_forgetAnswers_5 rfl rfl ?_
        refine fr_getr (a := 0) (pc := 6) dX11_forgetAnswers_6 rfl pf_11_86 s0_0 rfl rf_0_11 ?_
        refine fr_iconst (pc := 9) dX11_forgetAnswers_9 (by decide) ?_
        refine fr_put (a := 132) (i := 11) (pc := 10) dX11_forgetAnswers_10 rfl pf_11_337 rfl s0_132 rfl rfl nf_132_11 rfl ?_
        refine fr_aload_n (pc := 13) dX11_forgetAnswers_13 rfl rfl ?_
        refine fr_getr (a := 0) (pc := 14) dX11_forgetAnswers_14 rfl pf_11_93 s0_0 rfl rf_0_12 ?_
        refine fr_iconst (pc := 17) dX11_forgetAnswers_17 (by decide) ?_
        refine fr_put (a := 138) (i := 14) (pc := 18) dX11_forgetAnswers_18 rfl pf_11_340 rfl s0_138 rfl rfl nf_138_14 rfl ?_
        refine fr_aload_n (pc := 21) dX11_forgetAnswers_21 rfl rfl ?_
        refine fr_getr (a := 0) (pc := 22) dX11_forgetAnswers_22 rfl pf_11_102 s0_0 rfl rf_0_13 ?_
        refine fr_iconst (pc := 25) dX11_forgetAnswers_25 (by decide) ?_
        refine fr_put (a := 141) (i := 3) (pc := 26) dX11_forgetAnswers_26 rfl pf_11_341 rfl s0_141 rfl rfl nf_141_3 rfl ?_
        refine fr_vret (pc := 29) dX11_forgetAnswers_29 rfl ?_
        refine fr_aload_n (pc := 58) dX11_tests_58 rfl rfl ?_
        refine fr_getr (a := 0) (pc := 59) dX11_tests_59 rfl pf_11_23 s0_0 rfl rf_0_5 ?_
        refine fr_getf (a := 18) (i := 1) (v := gI M6 18 1) (t := 0) (pc := 62) dX11_tests_62 rfl pf_11_127 rfl s0_18 rfl ((gI_ne _ _ _ _ (by decide)).trans ((gI_ne _ _ _ _ (by decide)).trans ((gI_ne _ _ _ _ (by decide)).trans (gI_ne _ _ _ _ (by decide))))) ?_
        exact fr_iret (pc := 65) dX11_tests_65 (Or.inl rfl) hq
      · refine fr_bipush (pc := 36) dX11_tests_36 (by decide) ?_
        refine fr_iload_n (pc := 38) dX11_tests_38 rfl rfl ?_
        refine fr_isub (z := w32 ((-2) - r4)) (pc := 39) dX11_tests_39 rfl ?_
        exact fr_iret (pc := 40) dX11_tests_40 (Or.inl rfl) hq
    · refine fr_iconst (pc := 12) dX11_tests_12 (by decide) ?_
      exact fr_iret (pc := 13) dX11_tests_13 (Or.inl rfl) hq
theorem k9_read_r {o : Nat} {a1 : Int} {M : pm_M} {K : Int → pm_M → Prop} (ho : o = 18 ∨ o = 52) (hq : k7_start a1 (upI (upI (upI M 72 1 (o : Int)) o 1 0) o 2 0) (fun M1 => k9_readLine o M1 (fun M3 => k9_read_26 o 0 M3 K))) : k9_read o a1 M K := by
  intro sc d hd
  rcases ho with rfl | rfl
  · refine fr_aload_n (pc := 0) dX9_read_0 rfl rfl ?_
    refine fr_aload_n (pc := 1) dX9_read_1 rfl rfl ?_
    refine fr_put (a := 72) (i := 1) (pc := 2) dX9_read_2 rfl pf_9_15 rfl s0_72 rfl rfl nf_72_1 rfl ?_
    refine fr_aload_n (pc := 5) dX9_read_5 rfl rfl ?_
    refine fr_getf (a := 72) (i := 1) (v := 18) (t := 2) (pc := 6) dX9_read_6 rfl pf_9_15 rfl s0_72 rfl (gI_eq _ _ _ _) ?_
    refine fr_inVV (a := 18) (as := []) (rest := []) (ls' := [(2, 18)]) (c1 := 0) (c2 := 0) (pc := 9) dX9_read_9 pl_9_19 rfl ⟨Nat.le_of_ble_eq_true rfl, Nat.le_of_ble_eq_true rfl⟩ rfl rfl rfl s0_18 (Nat.le_of_ble_eq_true rfl) (by omega) rfl rfl (pm_zc _) ?_ (fun M' h => h)
    refine fr_aload_n (pc := 0) dX8_clear_0 rfl rfl ?_
    refine fr_iconst (pc := 1) dX8_clear_1 (by decide) ?_
    refine fr_put (a := 18) (i := 1) (pc := 2) dX8_clear_2 rfl pf_8_16 rfl s0_18 rfl rfl nf_18_1 rfl ?_
    refine fr_aload_n (pc := 5) dX8_clear_5 rfl rfl ?_
    refine fr_iconst (pc := 6) dX8_clear_6 (by decide) ?_
    refine fr_put (a := 18) (i := 2) (pc := 7) dX8_clear_7 rfl pf_8_20 rfl s0_18 rfl rfl nf_18_2 rfl ?_
    refine fr_vret (pc := 10) dX8_clear_10 rfl ?_
    refine fr_aload_n (pc := 12) dX9_read_12 rfl rfl ?_
    refine fr_getr (a := 72) (pc := 13) dX9_read_13 rfl pf_9_9 s0_72 rfl rf_72_0 ?_
    refine fr_iload_n (pc := 16) dX9_read_16 rfl rfl ?_
    refine fr_inVV (a := 70) (as := [(0, a1)]) (rest := []) (ls' := [(2, 70), (0, a1)]) (c1 := 0) (c2 := 0) (pc := 17) dX9_read_17 pl_9_24 rfl ⟨Nat.le_of_ble_eq_true rfl, Nat.le_of_ble_eq_true rfl⟩ rfl rfl rfl s0_70 (Nat.le_of_ble_eq_true rfl) (by omega) rfl rfl (pm_zc _) (hq sc _ (by omega)) (fun M1 hq => ?_)
    refine fr_aload_n (pc := 20) dX9_read_20 rfl rfl ?_
    refine fr_inVV (a := 72) (as := []) (rest := []) (ls' := [(2, 72), (9, 0), (9, 0), (9, 0), (9, 0), (9, 0)]) (c1 := 0) (c2 := 0) (pc := 21) dX9_read_21 pl_9_30 rfl ⟨Nat.le_of_ble_eq_true rfl, Nat.le_of_ble_eq_true rfl⟩ rfl rfl rfl s0_72 (Nat.le_of_ble_eq_true rfl) (by omega) rfl rfl (pm_zc _) (hq sc _ (by omega)) (fun M3 hq => ?_)
    refine fr_iconst (pc := 24) dX9_read_24 (by decide) ?_
    refine fr_istore_n (ls2 := [(2, 72), (0, a1), (2, 18), (0, 0)]) (pc := 25) dX9_read_25 rfl (Nat.le_of_ble_eq_true rfl) rfl ?_
    exact hq sc d hd (0, a1) pm_t0 (2, 18) pm_t2
  · refine fr_aload_n (pc := 0) dX9_read_0 rfl rfl ?_
    refine fr_aload_n (pc := 1) dX9_read_1 rfl rfl ?_
    refine fr_put (a := 72) (i := 1) (pc := 2) dX9_read_2 rfl pf_9_15 rfl s0_72 rfl rfl nf_72_1 rfl ?_
    refine fr_aload_n (pc := 5) dX9_read_5 rfl rfl ?_
    refine fr_getf (a := 72) (i := 1) (v := 52) (t := 2) (pc := 6) dX9_read_6 rfl pf_9_15 rfl s0_72 rfl (gI_eq _ _ _ _) ?_
    refine fr_inVV (a := 52) (as := []) (rest := []) (ls' := [(2, 52)]) (c1 := 0) (c2 := 0) (pc := 9) dX9_read_9 pl_9_19 rfl ⟨Nat.le_of_ble_eq_true rfl, Nat.le_of_ble_eq_true rfl⟩ rfl rfl rfl s0_52 (Nat.le_of_ble_eq_true rfl) (by omega) rfl rfl (pm_zc _) ?_ (fun M' h => h)
    refine fr_aload_n (pc := 0) dX8_clear_0 rfl rfl ?_
    refine fr_iconst (pc := 1) dX8_clear_1 (by decide) ?_
    refine fr_put (a := 52) (i := 1) (pc := 2) dX8_clear_2 rfl pf_8_16 rfl s0_52 rfl rfl nf_52_1 rfl ?_
    refine fr_aload_n (pc := 5) dX8_clear_5 rfl rfl ?_
    refine fr_iconst (pc := 6) dX8_clear_6 (by decide) ?_
    refine fr_put (a := 52) (i := 2) (pc := 7) dX8_clear_7 rfl pf_8_20 rfl s0_52 rfl rfl nf_52_2 rfl ?_
    refine fr_vret (pc := 10) dX8_clear_10 rfl ?_
    refine fr_aload_n (pc := 12) dX9_read_12 rfl rfl ?_
    refine fr_getr (a := 72) (pc := 13) dX9_read_13 rfl pf_9_9 s0_72 rfl rf_72_0 ?_
    refine fr_iload_n (pc := 16) dX9_read_16 rfl rfl ?_
    refine fr_inVV (a := 70) (as := [(0, a1)]) (rest := []) (ls' := [(2, 70), (0, a1)]) (c1 := 0) (c2 := 0) (pc := 17) dX9_read_17 pl_9_24 rfl ⟨Nat.le_of_ble_eq_true rfl, Nat.le_of_ble_eq_true rfl⟩ rfl rfl rfl s0_70 (Nat.le_of_ble_eq_true rfl) (by omega) rfl rfl (pm_zc _) (hq sc _ (by omega)) (fun M1 hq => ?_)
    refine fr_aload_n (pc := 20) dX9_read_20 rfl rfl ?_
    refine fr_inVV (a := 72) (as := []) (rest := []) (ls' := [(2, 72), (9, 0), (9, 0), (9, 0), (9, 0), (9, 0)]) (c1 := 0) (c2 := 0) (pc := 21) dX9_read_21 pl_9_30 rfl ⟨Nat.le_of_ble_eq_true rfl, Nat.le_of_ble_eq_true rfl⟩ rfl rfl rfl s0_72 (Nat.le_of_ble_eq_true rfl) (by omega) rfl rfl (pm_zc _) (hq sc _ (by omega)) (fun M3 hq => ?_)
    refine fr_iconst (pc := 24) dX9_read_24 (by decide) ?_
    refine fr_istore_n (ls2 := [(2, 72), (0, a1), (2, 52), (0, 0)]) (pc := 25) dX9_read_25 rfl (Nat.le_of_ble_eq_true rfl) rfl ?_
    exact hq sc d hd (0, a1) pm_t0 (2, 52) pm_t2
theorem k9_read_26_r {o : Nat} {l3 : Int} {M : pm_M} {K : Int → pm_M → Prop} (ho : o = 18 ∨ o = 52) (hq : (if l3 < 600 then (if gI M 70 4 = 5 then (if gI M 70 5 = 59 then k7_advance M (fun M4 => k9_readLine o M4 (fun M6 => k9_read_26 o (w32 (l3 + 1)) M6 K)) else (if gI M 70 4 = 0 then K (gI M 70 6) M else (if gI M 70 6 = 0 then K (w32 ((w32 (8 * (gI M 70 3))) + 1)) (upI (upI M 70 6 (w32 ((w32 (8 * (gI M 70 3))) + 1))) 70 4 1) else K (gI M 70 6) M))) else (if gI M 70 4 = 0 then K (gI M 70 6) M else (if gI M 70 6 = 0 then K (w32 ((w32 (8 * (gI M 70 3))) + 1)) (upI (upI M 70 6 (w32 ((w32 (8 * (gI M 70 3))) + 1))) 70 4 1) else K (gI M 70 6) M))) else (if gI M 70 4 = 0 then K (gI M 70 6) M else (if gI M 70 6 = 0 then K (w32 ((w32 (8 * (gI M 70 3))) + 1)) (upI (upI M 70 6 (w32 ((w32 (8 * (gI M 70 3))) + 1))) 70 4 1) else K (gI M 70 6) M)))) : k9_read_26 o l3 M K := by
  intro sc d hd z1 hz1 z2 hz2
  rcases ho with rfl | rfl
  · refine fr_iload_n (pc := 26) dX9_read_26 rfl rfl ?_
    refine fr_sipush (pc := 27) dX9_read_27 (by decide) ?_
    refine fr_icm_ge (tg := 62) (pc := 30) dX9_read_30 rfl hq (fun hc1 hq => ?_) (fun hc1 hq => ?_)
    · refine fr_aload_n (pc := 33) dX9_read_33 rfl rfl ?_
      refine fr_getr (a := 72) (pc := 34) dX9_read_34 rfl pf_9_9 s0_72 rfl rf_72_0 ?_
      refine fr_bipush (pc := 37) dX9_read_37 (by decide) ?_
      refine fr_inVI (a := 70) (as := [(0, 59)]) (rest := []) (ls' := [(2, 70), (0, 59)]) (c1 := 0) (c2 := 0) (pc := 39) dX9_read_39 pl_9_33 rfl ⟨Nat.le_of_ble_eq_true rfl, Nat.le_of_ble_eq_true rfl⟩ rfl rfl rfl s0_70 (Nat.le_of_ble_eq_true rfl) (by omega) rfl rfl (pm_zc _) ?_ (fun y M' h => h)
      refine fr_aload_n (pc := 0) dX7_isMark_0 rfl rfl ?_
      refine fr_getf (a := 70) (i := 4) (v := gI M 70 4) (t := 0) (pc := 1) dX7_isMark_1 rfl pf_7_40 rfl s0_70 rfl rfl ?_
      refine fr_iconst (pc := 4) dX7_isMark_4 (by decide) ?_
      refine fr_icm_ne (tg := 20) (pc := 5) dX7_isMark_5 rfl hq (fun hc2 hq => ?_) (fun hc2 hq => ?_)
      · refine fr_aload_n (pc := 8) dX7_isMark_8 rfl rfl ?_
        refine fr_getf (a := 70) (i := 5) (v := gI M 70 5) (t := 0) (pc := 9) dX7_isMark_9 rfl pf_7_43 rfl s0_70 rfl rfl ?_
        refine fr_iload_n (pc := 12) dX7_isMark_12 rfl rfl ?_
        refine fr_icm_ne (tg := 20) (pc := 13) dX7_isMark_13 rfl hq (fun hc3 hq => ?_) (fun hc3 hq => ?_)
        · refine fr_iconst (pc := 16) dX7_isMark_16 (by decide) ?_
          refine fr_goto (tg := 21) (pc := 17) dX7_isMark_17 rfl ?_
          refine fr_iret (pc := 21) dX7_isMark_21 (Or.inr (Or.inl ⟨rfl, Or.inr rfl⟩)) ?_
          refine fr_ifcF (tg := 62) (pc := 42) dX9_read_42 rfl rfl ?_
          refine fr_aload_n (pc := 45) dX9_read_45 rfl rfl ?_
          refine fr_getr (a := 72) (pc := 46) dX9_read_46 rfl pf_9_9 s0_72 rfl rf_72_0 ?_
          refine fr_inVV (a := 70) (as := []) (rest := []) (ls' := [(2, 70), (9, 0)]) (c1 := 0) (c2 := 0) (pc := 49) dX9_read_49 pl_9_37 rfl ⟨Nat.le_of_ble_eq_true rfl, Nat.le_of_ble_eq_true rfl⟩ rfl rfl rfl s0_70 (Nat.le_of_ble_eq_true rfl) (by omega) rfl rfl (pm_zc _) (hq sc _ (by omega)) (fun M4 hq => ?_)
          refine fr_aload_n (pc := 52) dX9_read_52 rfl rfl ?_
          refine fr_inVV (a := 72) (as := []) (rest := []) (ls' := [(2, 72), (9, 0), (9, 0), (9, 0), (9, 0), (9, 0)]) (c1 := 0) (c2 := 0) (pc := 53) dX9_read_53 pl_9_30 rfl ⟨Nat.le_of_ble_eq_true rfl, Nat.le_of_ble_eq_true rfl⟩ rfl rfl rfl s0_72 (Nat.le_of_ble_eq_true rfl) (by omega) rfl rfl (pm_zc _) (hq sc _ (by omega)) (fun M6 hq => ?_)
          refine fr_iinc (z := w32 (l3 + 1)) (ls2 := [(2, 72), z1, z2, (0, w32 (l3 + 1))]) (pc := 56) dX9_read_56 (Nat.le_of_ble_eq_true rfl) rfl rfl (pm_st1z hz2 rfl rfl) ?_
          refine fr_goto (tg := 26) (pc := 59) dX9_read_59 rfl ?_
          exact hq sc d hd z1 hz1 z2 hz2
        · refine fr_iconst (pc := 20) dX7_isMark_20 (by decide) ?_
          refine fr_iret (pc := 21) dX7_isMark_21 (Or.inr (Or.inl ⟨rfl, Or.inl rfl⟩)) ?_
          refine fr_ifcT (tg := 62) (pc := 42) dX9_read_42 rfl rfl ?_
          refine fr_aload_n (pc := 62) dX9_read_62 rfl rfl ?_
          refine fr_getr (a := 72) (pc := 63) dX9_read_63 rfl pf_9_9 s0_72 rfl rf_72_0 ?_
          refine fr_getf (a := 70) (i := 4) (v := gI M 70 4) (t := 0) (pc := 66) dX9_read_66 rfl pf_9_40 rfl s0_70 rfl rfl ?_
          refine fr_ifc_eq (tg := 80) (pc := 69) dX9_read_69 rfl hq (fun hc8 hq => ?_) (fun hc8 hq => ?_)
          · refine fr_aload_n (pc := 80) dX9_read_80 rfl rfl ?_
            refine fr_getr (a := 72) (pc := 81) dX9_read_81 rfl pf_9_9 s0_72 rfl rf_72_0 ?_
            refine fr_getf (a := 70) (i := 6) (v := gI M 70 6) (t := 0) (pc := 84) dX9_read_84 rfl pf_9_47 rfl s0_70 rfl rfl ?_
            exact fr_iret (pc := 87) dX9_read_87 (Or.inl rfl) hq
          · refine fr_aload_n (pc := 72) dX9_read_72 rfl rfl ?_
            refine fr_getr (a := 72) (pc := 73) dX9_read_73 rfl pf_9_9 s0_72 rfl rf_72_0 ?_
            refine fr_iconst (pc := 76) dX9_read_76 (by decide) ?_
            refine fr_inVV (a := 70) (as := [(0, 1)]) (rest := []) (ls' := [(2, 70), (0, 1)]) (c1 := 0) (c2 := 0) (pc := 77) dX9_read_77 pl_9_44 rfl ⟨Nat.le_of_ble_eq_true rfl, Nat.le_of_ble_eq_true rfl⟩ rfl rfl rfl s0_70 (Nat.le_of_ble_eq_true rfl) (by omega) rfl rfl (pm_zc _) ?_ (fun M' h => h)
            refine fr_aload_n (pc := 0) dX7_refuse_0 rfl rfl ?_
            refine fr_getf (a := 70) (i := 6) (v := gI M 70 6) (t := 0) (pc := 1) dX7_refuse_1 rfl pf_7_31 rfl s0_70 rfl rfl ?_
            refine fr_ifc_ne (tg := 25) (pc := 4) dX7_refuse_4 rfl hq (fun hc9 hq => ?_) (fun hc9 hq => ?_)
            · refine fr_aload_n (pc := 7) dX7_refuse_7 rfl rfl ?_
              refine fr_bipush (pc := 8) dX7_refuse_8 (by decide) ?_
              refine fr_aload_n (pc := 10) dX7_refuse_10 rfl rfl ?_
              refine fr_getf (a := 70) (i := 3) (v := gI M 70 3) (t := 0) (pc := 11) dX7_refuse_11 rfl pf_7_37 rfl s0_70 rfl rfl ?_
              refine fr_imul (z := w32 (8 * (gI M 70 3))) (pc := 14) dX7_refuse_14 rfl ?_
              refine fr_iload_n (pc := 15) dX7_refuse_15 rfl rfl ?_
              refine fr_iadd (z := w32 ((w32 (8 * (gI M 70 3))) + 1)) (pc := 16) dX7_refuse_16 rfl ?_
              refine fr_put (a := 70) (i := 6) (pc := 17) dX7_refuse_17 rfl pf_7_31 rfl s0_70 rfl rfl nf_70_6 rfl ?_
              refine fr_aload_n (pc := 20) dX7_refuse_20 rfl rfl ?_
              refine fr_iconst (pc := 21) dX7_refuse_21 (by decide) ?_
              refine fr_put (a := 70) (i := 4) (pc := 22) dX7_refuse_22 rfl pf_7_40 rfl s0_70 rfl rfl nf_70_4 rfl ?_
              refine fr_vret (pc := 25) dX7_refuse_25 rfl ?_
              refine fr_aload_n (pc := 80) dX9_read_80 rfl rfl ?_
              refine fr_getr (a := 72) (pc := 81) dX9_read_81 rfl pf_9_9 s0_72 rfl rf_72_0 ?_
              refine fr_getf (a := 70) (i := 6) (v := w32 ((w32 (8 * (gI M 70 3))) + 1)) (t := 0) (pc := 84) dX9_read_84 rfl pf_9_47 rfl s0_70 rfl ((gI_nf _ _ (by decide)).trans (gI_eq _ _ _ _)) ?_
              exact fr_iret (pc := 87) dX9_read_87 (Or.inl rfl) hq
            · refine fr_vret (pc := 25) dX7_refuse_25 rfl ?_
              refine fr_aload_n (pc := 80) dX9_read_80 rfl rfl ?_
              refine fr_getr (a := 72) (pc := 81) dX9_read_81 rfl pf_9_9 s0_72 rfl rf_72_0 ?_
              refine fr_getf (a := 70) (i := 6) (v := gI M 70 6) (t := 0) (pc := 84) dX9_read_84 rfl pf_9_47 rfl s0_70 rfl rfl ?_
              exact fr_iret (pc := 87) dX9_read_87 (Or.inl rfl) hq
      · refine fr_iconst (pc := 20) dX7_isMark_20 (by decide) ?_
        refine fr_iret (pc := 21) dX7_isMark_21 (Or.inr (Or.inl ⟨rfl, Or.inl rfl⟩)) ?_
        refine fr_ifcT (tg := 62) (pc := 42) dX9_read_42 rfl rfl ?_
        refine fr_aload_n (pc := 62) dX9_read_62 rfl rfl ?_
        refine fr_getr (a := 72) (pc := 63) dX9_read_63 rfl pf_9_9 s0_72 rfl rf_72_0 ?_
        refine fr_getf (a := 70) (i := 4) (v := gI M 70 4) (t := 0) (pc := 66) dX9_read_66 rfl pf_9_40 rfl s0_70 rfl rfl ?_
        refine fr_ifc_eq (tg := 80) (pc := 69) dX9_read_69 rfl hq (fun hc10 hq => ?_) (fun hc10 hq => ?_)
        · refine fr_aload_n (pc := 80) dX9_read_80 rfl rfl ?_
          refine fr_getr (a := 72) (pc := 81) dX9_read_81 rfl pf_9_9 s0_72 rfl rf_72_0 ?_
          refine fr_getf (a := 70) (i := 6) (v := gI M 70 6) (t := 0) (pc := 84) dX9_read_84 rfl pf_9_47 rfl s0_70 rfl rfl ?_
          exact fr_iret (pc := 87) dX9_read_87 (Or.inl rfl) hq
        · refine fr_aload_n (pc := 72) dX9_read_72 rfl rfl ?_
          refine fr_getr (a := 72) (pc := 73) dX9_read_73 rfl pf_9_9 s0_72 rfl rf_72_0 ?_
          refine fr_iconst (pc := 76) dX9_read_76 (by decide) ?_
          refine fr_inVV (a := 70) (as := [(0, 1)]) (rest := []) (ls' := [(2, 70), (0, 1)]) (c1 := 0) (c2 := 0) (pc := 77) dX9_read_77 pl_9_44 rfl ⟨Nat.le_of_ble_eq_true rfl, Nat.le_of_ble_eq_true rfl⟩ rfl rfl rfl s0_70 (Nat.le_of_ble_eq_true rfl) (by omega) rfl rfl (pm_zc _) ?_ (fun M' h => h)
          refine fr_aload_n (pc := 0) dX7_refuse_0 rfl rfl ?_
          refine fr_getf (a := 70) (i := 6) (v := gI M 70 6) (t := 0) (pc := 1) dX7_refuse_1 rfl pf_7_31 rfl s0_70 rfl rfl ?_
          refine fr_ifc_ne (tg := 25) (pc := 4) dX7_refuse_4 rfl hq (fun hc11 hq => ?_) (fun hc11 hq => ?_)
          · refine fr_aload_n (pc := 7) dX7_refuse_7 rfl rfl ?_
            refine fr_bipush (pc := 8) dX7_refuse_8 (by decide) ?_
            refine fr_aload_n (pc := 10) dX7_refuse_10 rfl rfl ?_
            refine fr_getf (a := 70) (i := 3) (v := gI M 70 3) (t := 0) (pc := 11) dX7_refuse_11 rfl pf_7_37 rfl s0_70 rfl rfl ?_
            refine fr_imul (z := w32 (8 * (gI M 70 3))) (pc := 14) dX7_refuse_14 rfl ?_
            refine fr_iload_n (pc := 15) dX7_refuse_15 rfl rfl ?_
            refine fr_iadd (z := w32 ((w32 (8 * (gI M 70 3))) + 1)) (pc := 16) dX7_refuse_16 rfl ?_
            refine fr_put (a := 70) (i := 6) (pc := 17) dX7_refuse_17 rfl pf_7_31 rfl s0_70 rfl rfl nf_70_6 rfl ?_
            refine fr_aload_n (pc := 20) dX7_refuse_20 rfl rfl ?_
            refine fr_iconst (pc := 21) dX7_refuse_21 (by decide) ?_
            refine fr_put (a := 70) (i := 4) (pc := 22) dX7_refuse_22 rfl pf_7_40 rfl s0_70 rfl rfl nf_70_4 rfl ?_
            refine fr_vret (pc := 25) dX7_refuse_25 rfl ?_
            refine fr_aload_n (pc := 80) dX9_read_80 rfl rfl ?_
            refine fr_getr (a := 72) (pc := 81) dX9_read_81 rfl pf_9_9 s0_72 rfl rf_72_0 ?_
            refine fr_getf (a := 70) (i := 6) (v := w32 ((w32 (8 * (gI M 70 3))) + 1)) (t := 0) (pc := 84) dX9_read_84 rfl pf_9_47 rfl s0_70 rfl ((gI_nf _ _ (by decide)).trans (gI_eq _ _ _ _)) ?_
            exact fr_iret (pc := 87) dX9_read_87 (Or.inl rfl) hq
          · refine fr_vret (pc := 25) dX7_refuse_25 rfl ?_
            refine fr_aload_n (pc := 80) dX9_read_80 rfl rfl ?_
            refine fr_getr (a := 72) (pc := 81) dX9_read_81 rfl pf_9_9 s0_72 rfl rf_72_0 ?_
            refine fr_getf (a := 70) (i := 6) (v := gI M 70 6) (t := 0) (pc := 84) dX9_read_84 rfl pf_9_47 rfl s0_70 rfl rfl ?_
            exact fr_iret (pc := 87) dX9_read_87 (Or.inl rfl) hq
    · refine fr_aload_n (pc := 62) dX9_read_62 rfl rfl ?_
      refine fr_getr (a := 72) (pc := 63) dX9_read_63 rfl pf_9_9 s0_72 rfl rf_72_0 ?_
      refine fr_getf (a := 70) (i := 4) (v := gI M 70 4) (t := 0) (pc := 66) dX9_read_66 rfl pf_9_40 rfl s0_70 rfl rfl ?_
      refine fr_ifc_eq (tg := 80) (pc := 69) dX9_read_69 rfl hq (fun hc12 hq => ?_) (fun hc12 hq => ?_)
      · refine fr_aload_n (pc := 80) dX9_read_80 rfl rfl ?_
        refine fr_getr (a := 72) (pc := 81) dX9_read_81 rfl pf_9_9 s0_72 rfl rf_72_0 ?_
        refine fr_getf (a := 70) (i := 6) (v := gI M 70 6) (t := 0) (pc := 84) dX9_read_84 rfl pf_9_47 rfl s0_70 rfl rfl ?_
        exact fr_iret (pc := 87) dX9_read_87 (Or.inl rfl) hq
      · refine fr_aload_n (pc := 72) dX9_read_72 rfl rfl ?_
        refine fr_getr (a := 72) (pc := 73) dX9_read_73 rfl pf_9_9 s0_72 rfl rf_72_0 ?_
        refine fr_iconst (pc := 76) dX9_read_76 (by decide) ?_
        refine fr_inVV (a := 70) (as := [(0, 1)]) (rest := []) (ls' := [(2, 70), (0, 1)]) (c1 := 0) (c2 := 0) (pc := 77) dX9_read_77 pl_9_44 rfl ⟨Nat.le_of_ble_eq_true rfl, Nat.le_of_ble_eq_true rfl⟩ rfl rfl rfl s0_70 (Nat.le_of_ble_eq_true rfl) (by omega) rfl rfl (pm_zc _) ?_ (fun M' h => h)
        refine fr_aload_n (pc := 0) dX7_refuse_0 rfl rfl ?_
        refine fr_getf (a := 70) (i := 6) (v := gI M 70 6) (t := 0) (pc := 1) dX7_refuse_1 rfl pf_7_31 rfl s0_70 rfl rfl ?_
        refine fr_ifc_ne (tg := 25) (pc := 4) dX7_refuse_4 rfl hq (fun hc13 hq => ?_) (fun hc13 hq => ?_)
        · refine fr_aload_n (pc := 7) dX7_refuse_7 rfl rfl ?_
          refine fr_bipush (pc := 8) dX7_refuse_8 (by decide) ?_
          refine fr_aload_n (pc := 10) dX7_refuse_10 rfl rfl ?_
          refine fr_getf (a := 70) (i := 3) (v := gI M 70 3) (t := 0) (pc := 11) dX7_refuse_11 rfl pf_7_37 rfl s0_70 rfl rfl ?_
          refine fr_imul (z := w32 (8 * (gI M 70 3))) (pc := 14) dX7_refuse_14 rfl ?_
          refine fr_iload_n (pc := 15) dX7_refuse_15 rfl rfl ?_
          refine fr_iadd (z := w32 ((w32 (8 * (gI M 70 3))) + 1)) (pc := 16) dX7_refuse_16 rfl ?_
          refine fr_put (a := 70) (i := 6) (pc := 17) dX7_refuse_17 rfl pf_7_31 rfl s0_70 rfl rfl nf_70_6 rfl ?_
          refine fr_aload_n (pc := 20) dX7_refuse_20 rfl rfl ?_
          refine fr_iconst (pc := 21) dX7_refuse_21 (by decide) ?_
          refine fr_put (a := 70) (i := 4) (pc := 22) dX7_refuse_22 rfl pf_7_40 rfl s0_70 rfl rfl nf_70_4 rfl ?_
          refine fr_vret (pc := 25) dX7_refuse_25 rfl ?_
          refine fr_aload_n (pc := 80) dX9_read_80 rfl rfl ?_
          refine fr_getr (a := 72) (pc := 81) dX9_read_81 rfl pf_9_9 s0_72 rfl rf_72_0 ?_
          refine fr_getf (a := 70) (i := 6) (v := w32 ((w32 (8 * (gI M 70 3))) + 1)) (t := 0) (pc := 84) dX9_read_84 rfl pf_9_47 rfl s0_70 rfl ((gI_nf _ _ (by decide)).trans (gI_eq _ _ _ _)) ?_
          exact fr_iret (pc := 87) dX9_read_87 (Or.inl rfl) hq
        · refine fr_vret (pc := 25) dX7_refuse_25 rfl ?_
          refine fr_aload_n (pc := 80) dX9_read_80 rfl rfl ?_
          refine fr_getr (a := 72) (pc := 81) dX9_read_81 rfl pf_9_9 s0_72 rfl rf_72_0 ?_
          refine fr_getf (a := 70) (i := 6) (v := gI M 70 6) (t := 0) (pc := 84) dX9_read_84 rfl pf_9_47 rfl s0_70 rfl rfl ?_
          exact fr_iret (pc := 87) dX9_read_87 (Or.inl rfl) hq
  · refine fr_iload_n (pc := 26) dX9_read_26 rfl rfl ?_
    refine fr_sipush (pc := 27) dX9_read_27 (by decide) ?_
    refine fr_icm_ge (tg := 62) (pc := 30) dX9_read_30 rfl hq (fun hc1 hq => ?_) (fun hc1 hq => ?_)
    · refine fr_aload_n (pc := 33) dX9_read_33 rfl rfl ?_
      refine fr_getr (a := 72) (pc := 34) dX9_read_34 rfl pf_9_9 s0_72 rfl rf_72_0 ?_
      refine fr_bipush (pc := 37) dX9_read_37 (by decide) ?_
      refine fr_inVI (a := 70) (as := [(0, 59)]) (rest := []) (ls' := [(2, 70), (0, 59)]) (c1 := 0) (c2 := 0) (pc := 39) dX9_read_39 pl_9_33 rfl ⟨Nat.le_of_ble_eq_true rfl, Nat.le_of_ble_eq_true rfl⟩ rfl rfl rfl s0_70 (Nat.le_of_ble_eq_true rfl) (by omega) rfl rfl (pm_zc _) ?_ (fun y M' h => h)
      refine fr_aload_n (pc := 0) dX7_isMark_0 rfl rfl ?_
      refine fr_getf (a := 70) (i := 4) (v := gI M 70 4) (t := 0) (pc := 1) dX7_isMark_1 rfl pf_7_40 rfl s0_70 rfl rfl ?_
      refine fr_iconst (pc := 4) dX7_isMark_4 (by decide) ?_
      refine fr_icm_ne (tg := 20) (pc := 5) dX7_isMark_5 rfl hq (fun hc2 hq => ?_) (fun hc2 hq => ?_)
      · refine fr_aload_n (pc := 8) dX7_isMark_8 rfl rfl ?_
        refine fr_getf (a := 70) (i := 5) (v := gI M 70 5) (t := 0) (pc := 9) dX7_isMark_9 rfl pf_7_43 rfl s0_70 rfl rfl ?_
        refine fr_iload_n (pc := 12) dX7_isMark_12 rfl rfl ?_
        refine fr_icm_ne (tg := 20) (pc := 13) dX7_isMark_13 rfl hq (fun hc3 hq => ?_) (fun hc3 hq => ?_)
        · refine fr_iconst (pc := 16) dX7_isMark_16 (by decide) ?_
          refine fr_goto (tg := 21) (pc := 17) dX7_isMark_17 rfl ?_
          refine fr_iret (pc := 21) dX7_isMark_21 (Or.inr (Or.inl ⟨rfl, Or.inr rfl⟩)) ?_
          refine fr_ifcF (tg := 62) (pc := 42) dX9_read_42 rfl rfl ?_
          refine fr_aload_n (pc := 45) dX9_read_45 rfl rfl ?_
          refine fr_getr (a := 72) (pc := 46) dX9_read_46 rfl pf_9_9 s0_72 rfl rf_72_0 ?_
          refine fr_inVV (a := 70) (as := []) (rest := []) (ls' := [(2, 70), (9, 0)]) (c1 := 0) (c2 := 0) (pc := 49) dX9_read_49 pl_9_37 rfl ⟨Nat.le_of_ble_eq_true rfl, Nat.le_of_ble_eq_true rfl⟩ rfl rfl rfl s0_70 (Nat.le_of_ble_eq_true rfl) (by omega) rfl rfl (pm_zc _) (hq sc _ (by omega)) (fun M4 hq => ?_)
          refine fr_aload_n (pc := 52) dX9_read_52 rfl rfl ?_
          refine fr_inVV (a := 72) (as := []) (rest := []) (ls' := [(2, 72), (9, 0), (9, 0), (9, 0), (9, 0), (9, 0)]) (c1 := 0) (c2 := 0) (pc := 53) dX9_read_53 pl_9_30 rfl ⟨Nat.le_of_ble_eq_true rfl, Nat.le_of_ble_eq_true rfl⟩ rfl rfl rfl s0_72 (Nat.le_of_ble_eq_true rfl) (by omega) rfl rfl (pm_zc _) (hq sc _ (by omega)) (fun M6 hq => ?_)
          refine fr_iinc (z := w32 (l3 + 1)) (ls2 := [(2, 72), z1, z2, (0, w32 (l3 + 1))]) (pc := 56) dX9_read_56 (Nat.le_of_ble_eq_true rfl) rfl rfl (pm_st1z hz2 rfl rfl) ?_
          refine fr_goto (tg := 26) (pc := 59) dX9_read_59 rfl ?_
          exact hq sc d hd z1 hz1 z2 hz2
        · refine fr_iconst (pc := 20) dX7_isMark_20 (by decide) ?_
          refine fr_iret (pc := 21) dX7_isMark_21 (Or.inr (Or.inl ⟨rfl, Or.inl rfl⟩)) ?_
          refine fr_ifcT (tg := 62) (pc := 42) dX9_read_42 rfl rfl ?_
          refine fr_aload_n (pc := 62) dX9_read_62 rfl rfl ?_
          refine fr_getr (a := 72) (pc := 63) dX9_read_63 rfl pf_9_9 s0_72 rfl rf_72_0 ?_
          refine fr_getf (a := 70) (i := 4) (v := gI M 70 4) (t := 0) (pc := 66) dX9_read_66 rfl pf_9_40 rfl s0_70 rfl rfl ?_
          refine fr_ifc_eq (tg := 80) (pc := 69) dX9_read_69 rfl hq (fun hc8 hq => ?_) (fun hc8 hq => ?_)
          · refine fr_aload_n (pc := 80) dX9_read_80 rfl rfl ?_
            refine fr_getr (a := 72) (pc := 81) dX9_read_81 rfl pf_9_9 s0_72 rfl rf_72_0 ?_
            refine fr_getf (a := 70) (i := 6) (v := gI M 70 6) (t := 0) (pc := 84) dX9_read_84 rfl pf_9_47 rfl s0_70 rfl rfl ?_
            exact fr_iret (pc := 87) dX9_read_87 (Or.inl rfl) hq
          · refine fr_aload_n (pc := 72) dX9_read_72 rfl rfl ?_
            refine fr_getr (a := 72) (pc := 73) dX9_read_73 rfl pf_9_9 s0_72 rfl rf_72_0 ?_
            refine fr_iconst (pc := 76) dX9_read_76 (by decide) ?_
            refine fr_inVV (a := 70) (as := [(0, 1)]) (rest := []) (ls' := [(2, 70), (0, 1)]) (c1 := 0) (c2 := 0) (pc := 77) dX9_read_77 pl_9_44 rfl ⟨Nat.le_of_ble_eq_true rfl, Nat.le_of_ble_eq_true rfl⟩ rfl rfl rfl s0_70 (Nat.le_of_ble_eq_true rfl) (by omega) rfl rfl (pm_zc _) ?_ (fun M' h => h)
            refine fr_aload_n (pc := 0) dX7_refuse_0 rfl rfl ?_
            refine fr_getf (a := 70) (i := 6) (v := gI M 70 6) (t := 0) (pc := 1) dX7_refuse_1 rfl pf_7_31 rfl s0_70 rfl rfl ?_
            refine fr_ifc_ne (tg := 25) (pc := 4) dX7_refuse_4 rfl hq (fun hc9 hq => ?_) (fun hc9 hq => ?_)
            · refine fr_aload_n (pc := 7) dX7_refuse_7 rfl rfl ?_
              refine fr_bipush (pc := 8) dX7_refuse_8 (by decide) ?_
              refine fr_aload_n (pc := 10) dX7_refuse_10 rfl rfl ?_
              refine fr_getf (a := 70) (i := 3) (v := gI M 70 3) (t := 0) (pc := 11) dX7_refuse_11 rfl pf_7_37 rfl s0_70 rfl rfl ?_
              refine fr_imul (z := w32 (8 * (gI M 70 3))) (pc := 14) dX7_refuse_14 rfl ?_
              refine fr_iload_n (pc := 15) dX7_refuse_15 rfl rfl ?_
              refine fr_iadd (z := w32 ((w32 (8 * (gI M 70 3))) + 1)) (pc := 16) dX7_refuse_16 rfl ?_
              refine fr_put (a := 70) (i := 6) (pc := 17) dX7_refuse_17 rfl pf_7_31 rfl s0_70 rfl rfl nf_70_6 rfl ?_
              refine fr_aload_n (pc := 20) dX7_refuse_20 rfl rfl ?_
              refine fr_iconst (pc := 21) dX7_refuse_21 (by decide) ?_
              refine fr_put (a := 70) (i := 4) (pc := 22) dX7_refuse_22 rfl pf_7_40 rfl s0_70 rfl rfl nf_70_4 rfl ?_
              refine fr_vret (pc := 25) dX7_refuse_25 rfl ?_
              refine fr_aload_n (pc := 80) dX9_read_80 rfl rfl ?_
              refine fr_getr (a := 72) (pc := 81) dX9_read_81 rfl pf_9_9 s0_72 rfl rf_72_0 ?_
              refine fr_getf (a := 70) (i := 6) (v := w32 ((w32 (8 * (gI M 70 3))) + 1)) (t := 0) (pc := 84) dX9_read_84 rfl pf_9_47 rfl s0_70 rfl ((gI_nf _ _ (by decide)).trans (gI_eq _ _ _ _)) ?_
              exact fr_iret (pc := 87) dX9_read_87 (Or.inl rfl) hq
            · refine fr_vret (pc := 25) dX7_refuse_25 rfl ?_
              refine fr_aload_n (pc := 80) dX9_read_80 rfl rfl ?_
              refine fr_getr (a := 72) (pc := 81) dX9_read_81 rfl pf_9_9 s0_72 rfl rf_72_0 ?_
              refine fr_getf (a := 70) (i := 6) (v := gI M 70 6) (t := 0) (pc := 84) dX9_read_84 rfl pf_9_47 rfl s0_70 rfl rfl ?_
              exact fr_iret (pc := 87) dX9_read_87 (Or.inl rfl) hq
      · refine fr_iconst (pc := 20) dX7_isMark_20 (by decide) ?_
        refine fr_iret (pc := 21) dX7_isMark_21 (Or.inr (Or.inl ⟨rfl, Or.inl rfl⟩)) ?_
        refine fr_ifcT (tg := 62) (pc := 42) dX9_read_42 rfl rfl ?_
        refine fr_aload_n (pc := 62) dX9_read_62 rfl rfl ?_
        refine fr_getr (a := 72) (pc := 63) dX9_read_63 rfl pf_9_9 s0_72 rfl rf_72_0 ?_
        refine fr_getf (a := 70) (i := 4) (v := gI M 70 4) (t := 0) (pc := 66) dX9_read_66 rfl pf_9_40 rfl s0_70 rfl rfl ?_
        refine fr_ifc_eq (tg := 80) (pc := 69) dX9_read_69 rfl hq (fun hc10 hq => ?_) (fun hc10 hq => ?_)
        · refine fr_aload_n (pc := 80) dX9_read_80 rfl rfl ?_
          refine fr_getr (a := 72) (pc := 81) dX9_read_81 rfl pf_9_9 s0_72 rfl rf_72_0 ?_
          refine fr_getf (a := 70) (i := 6) (v := gI M 70 6) (t := 0) (pc := 84) dX9_read_84 rfl pf_9_47 rfl s0_70 rfl rfl ?_
          exact fr_iret (pc := 87) dX9_read_87 (Or.inl rfl) hq
        · refine fr_aload_n (pc := 72) dX9_read_72 rfl rfl ?_
          refine fr_getr (a := 72) (pc := 73) dX9_read_73 rfl pf_9_9 s0_72 rfl rf_72_0 ?_
          refine fr_iconst (pc := 76) dX9_read_76 (by decide) ?_
          refine fr_inVV (a := 70) (as := [(0, 1)]) (rest := []) (ls' := [(2, 70), (0, 1)]) (c1 := 0) (c2 := 0) (pc := 77) dX9_read_77 pl_9_44 rfl ⟨Nat.le_of_ble_eq_true rfl, Nat.le_of_ble_eq_true rfl⟩ rfl rfl rfl s0_70 (Nat.le_of_ble_eq_true rfl) (by omega) rfl rfl (pm_zc _) ?_ (fun M' h => h)
          refine fr_aload_n (pc := 0) dX7_refuse_0 rfl rfl ?_
          refine fr_getf (a := 70) (i := 6) (v := gI M 70 6) (t := 0) (pc := 1) dX7_refuse_1 rfl pf_7_31 rfl s0_70 rfl rfl ?_
          refine fr_ifc_ne (tg := 25) (pc := 4) dX7_refuse_4 rfl hq (fun hc11 hq => ?_) (fun hc11 hq => ?_)
          · refine fr_aload_n (pc := 7) dX7_refuse_7 rfl rfl ?_
            refine fr_bipush (pc := 8) dX7_refuse_8 (by decide) ?_
            refine fr_aload_n (pc := 10) dX7_refuse_10 rfl rfl ?_
            refine fr_getf (a := 70) (i := 3) (v := gI M 70 3) (t := 0) (pc := 11) dX7_refuse_11 rfl pf_7_37 rfl s0_70 rfl rfl ?_
            refine fr_imul (z := w32 (8 * (gI M 70 3))) (pc := 14) dX7_refuse_14 rfl ?_
            refine fr_iload_n (pc := 15) dX7_refuse_15 rfl rfl ?_
            refine fr_iadd (z := w32 ((w32 (8 * (gI M 70 3))) + 1)) (pc := 16) dX7_refuse_16 rfl ?_
            refine fr_put (a := 70) (i := 6) (pc := 17) dX7_refuse_17 rfl pf_7_31 rfl s0_70 rfl rfl nf_70_6 rfl ?_
            refine fr_aload_n (pc := 20) dX7_refuse_20 rfl rfl ?_
            refine fr_iconst (pc := 21) dX7_refuse_21 (by decide) ?_
            refine fr_put (a := 70) (i := 4) (pc := 22) dX7_refuse_22 rfl pf_7_40 rfl s0_70 rfl rfl nf_70_4 rfl ?_
            refine fr_vret (pc := 25) dX7_refuse_25 rfl ?_
            refine fr_aload_n (pc := 80) dX9_read_80 rfl rfl ?_
            refine fr_getr (a := 72) (pc := 81) dX9_read_81 rfl pf_9_9 s0_72 rfl rf_72_0 ?_
            refine fr_getf (a := 70) (i := 6) (v := w32 ((w32 (8 * (gI M 70 3))) + 1)) (t := 0) (pc := 84) dX9_read_84 rfl pf_9_47 rfl s0_70 rfl ((gI_nf _ _ (by decide)).trans (gI_eq _ _ _ _)) ?_
            exact fr_iret (pc := 87) dX9_read_87 (Or.inl rfl) hq
          · refine fr_vret (pc := 25) dX7_refuse_25 rfl ?_
            refine fr_aload_n (pc := 80) dX9_read_80 rfl rfl ?_
            refine fr_getr (a := 72) (pc := 81) dX9_read_81 rfl pf_9_9 s0_72 rfl rf_72_0 ?_
            refine fr_getf (a := 70) (i := 6) (v := gI M 70 6) (t := 0) (pc := 84) dX9_read_84 rfl pf_9_47 rfl s0_70 rfl rfl ?_
            exact fr_iret (pc := 87) dX9_read_87 (Or.inl rfl) hq
    · refine fr_aload_n (pc := 62) dX9_read_62 rfl rfl ?_
      refine fr_getr (a := 72) (pc := 63) dX9_read_63 rfl pf_9_9 s0_72 rfl rf_72_0 ?_
      refine fr_getf (a := 70) (i := 4) (v := gI M 70 4) (t := 0) (pc := 66) dX9_read_66 rfl pf_9_40 rfl s0_70 rfl rfl ?_
      refine fr_ifc_eq (tg := 80) (pc := 69) dX9_read_69 rfl hq (fun hc12 hq => ?_) (fun hc12 hq => ?_)
      · refine fr_aload_n (pc := 80) dX9_read_80 rfl rfl ?_
        refine fr_getr (a := 72) (pc := 81) dX9_read_81 rfl pf_9_9 s0_72 rfl rf_72_0 ?_
        refine fr_getf (a := 70) (i := 6) (v := gI M 70 6) (t := 0) (pc := 84) dX9_read_84 rfl pf_9_47 rfl s0_70 rfl rfl ?_
        exact fr_iret (pc := 87) dX9_read_87 (Or.inl rfl) hq
      · refine fr_aload_n (pc := 72) dX9_read_72 rfl rfl ?_
        refine fr_getr (a := 72) (pc := 73) dX9_read_73 rfl pf_9_9 s0_72 rfl rf_72_0 ?_
        refine fr_iconst (pc := 76) dX9_read_76 (by decide) ?_
        refine fr_inVV (a := 70) (as := [(0, 1)]) (rest := []) (ls' := [(2, 70), (0, 1)]) (c1 := 0) (c2 := 0) (pc := 77) dX9_read_77 pl_9_44 rfl ⟨Nat.le_of_ble_eq_true rfl, Nat.le_of_ble_eq_true rfl⟩ rfl rfl rfl s0_70 (Nat.le_of_ble_eq_true rfl) (by omega) rfl rfl (pm_zc _) ?_ (fun M' h => h)
        refine fr_aload_n (pc := 0) dX7_refuse_0 rfl rfl ?_
        refine fr_getf (a := 70) (i := 6) (v := gI M 70 6) (t := 0) (pc := 1) dX7_refuse_1 rfl pf_7_31 rfl s0_70 rfl rfl ?_
        refine fr_ifc_ne (tg := 25) (pc := 4) dX7_refuse_4 rfl hq (fun hc13 hq => ?_) (fun hc13 hq => ?_)
        · refine fr_aload_n (pc := 7) dX7_refuse_7 rfl rfl ?_
          refine fr_bipush (pc := 8) dX7_refuse_8 (by decide) ?_
          refine fr_aload_n (pc := 10) dX7_refuse_10 rfl rfl ?_
          refine fr_getf (a := 70) (i := 3) (v := gI M 70 3) (t := 0) (pc := 11) dX7_refuse_11 rfl pf_7_37 rfl s0_70 rfl rfl ?_
          refine fr_imul (z := w32 (8 * (gI M 70 3))) (pc := 14) dX7_refuse_14 rfl ?_
          refine fr_iload_n (pc := 15) dX7_refuse_15 rfl rfl ?_
          refine fr_iadd (z := w32 ((w32 (8 * (gI M 70 3))) + 1)) (pc := 16) dX7_refuse_16 rfl ?_
          refine fr_put (a := 70) (i := 6) (pc := 17) dX7_refuse_17 rfl pf_7_31 rfl s0_70 rfl rfl nf_70_6 rfl ?_
          refine fr_aload_n (pc := 20) dX7_refuse_20 rfl rfl ?_
          refine fr_iconst (pc := 21) dX7_refuse_21 (by decide) ?_
          refine fr_put (a := 70) (i := 4) (pc := 22) dX7_refuse_22 rfl pf_7_40 rfl s0_70 rfl rfl nf_70_4 rfl ?_
          refine fr_vret (pc := 25) dX7_refuse_25 rfl ?_
          refine fr_aload_n (pc := 80) dX9_read_80 rfl rfl ?_
          refine fr_getr (a := 72) (pc := 81) dX9_read_81 rfl pf_9_9 s0_72 rfl rf_72_0 ?_
          refine fr_getf (a := 70) (i := 6) (v := w32 ((w32 (8 * (gI M 70 3))) + 1)) (t := 0) (pc := 84) dX9_read_84 rfl pf_9_47 rfl s0_70 rfl ((gI_nf _ _ (by decide)).trans (gI_eq _ _ _ _)) ?_
          exact fr_iret (pc := 87) dX9_read_87 (Or.inl rfl) hq
        · refine fr_vret (pc := 25) dX7_refuse_25 rfl ?_
          refine fr_aload_n (pc := 80) dX9_read_80 rfl rfl ?_
          refine fr_getr (a := 72) (pc := 81) dX9_read_81 rfl pf_9_9 s0_72 rfl rf_72_0 ?_
          refine fr_getf (a := 70) (i := 6) (v := gI M 70 6) (t := 0) (pc := 84) dX9_read_84 rfl pf_9_47 rfl s0_70 rfl rfl ?_
          exact fr_iret (pc := 87) dX9_read_87 (Or.inl rfl) hq
theorem k9_readLine_r {o : Nat} {M : pm_M} {K : pm_M → Prop} (ho : o = 18 ∨ o = 52) (hq : k7_isWord 7 M (fun r2 M1 => (if r2 = 0 then k7_expectWord 7 M1 (fun M4 => k9_readNumber M4 (fun r7 M6 => k9_readNumber M6 (fun r9 M8 => k9_readNumber M8 (fun r11 M10 => k7_expectWord 8 M10 (fun M12 => k9_readNumber M12 (fun r15 M14 => k7_isWord 9 M14 (fun r17 M16 => (if r17 = 0 then (gI M16 72 1 = (o : Int) ∧ k8_add o r7 r9 r11 r15 r17 M16 (fun M20 => K M20)) else k7_advance M16 (fun M22 => (gI M22 72 1 = (o : Int) ∧ k8_add o r7 r9 r11 r15 r17 M22 (fun M25 => K M25))))))))))) else (gI M1 72 1 = (o : Int) ∧ (if gI M1 o 1 < 16 then k7_expectWord 7 M1 (fun M29 => k9_readNumber M29 (fun r32 M31 => k9_readNumber M31 (fun r34 M33 => k9_readNumber M33 (fun r36 M35 => k7_expectWord 8 M35 (fun M37 => k9_readNumber M37 (fun r40 M39 => k7_isWord 9 M39 (fun r42 M41 => (if r42 = 0 then (gI M41 72 1 = (o : Int) ∧ k8_add o r32 r34 r36 r40 r42 M41 (fun M45 => K M45)) else k7_advance M41 (fun M47 => (gI M47 72 1 = (o : Int) ∧ k8_add o r32 r34 r36 r40 r42 M47 (fun M50 => K M50))))))))))) else (if gI M1 70 6 = 0 then K (upI (upI M1 70 6 (w32 ((w32 (8 * (gI M1 70 3))) + 2))) 70 4 1) else K M1)))))) : k9_readLine o M K := by
  intro sc d hd
  rcases ho with rfl | rfl
  · refine fr_aload_n (pc := 0) dX9_readLine_0 rfl rfl ?_
    refine fr_getr (a := 72) (pc := 1) dX9_readLine_1 rfl pf_9_9 s0_72 rfl rf_72_0 ?_
    refine fr_ldcs (pc := 4) dX9_readLine_4 rfl rfl ?_
    refine fr_inVI (a := 70) (as := [(3, 7)]) (rest := []) (ls' := [(2, 70), (3, 7), (9, 0)]) (c1 := 0) (c2 := 0) (pc := 6) dX9_readLine_6 pl_9_52 rfl ⟨Nat.le_of_ble_eq_true rfl, Nat.le_of_ble_eq_true rfl⟩ rfl rfl rfl s0_70 (Nat.le_of_ble_eq_true rfl) (by omega) rfl rfl (pm_zc _) (hq sc _ (by omega)) (fun r2 M1 hq => ?_)
    refine fr_ifc_eq (tg := 33) (pc := 9) dX9_readLine_9 rfl hq (fun hc3 hq => ?_) (fun hc3 hq => ?_)
    · refine fr_aload_n (pc := 33) dX9_readLine_33 rfl rfl ?_
      refine fr_getr (a := 72) (pc := 34) dX9_readLine_34 rfl pf_9_9 s0_72 rfl rf_72_0 ?_
      refine fr_ldcs (pc := 37) dX9_readLine_37 rfl rfl ?_
      refine fr_inVV (a := 70) (as := [(3, 7)]) (rest := []) (ls' := [(2, 70), (3, 7)]) (c1 := 0) (c2 := 0) (pc := 39) dX9_readLine_39 pl_9_59 rfl ⟨Nat.le_of_ble_eq_true rfl, Nat.le_of_ble_eq_true rfl⟩ rfl rfl rfl s0_70 (Nat.le_of_ble_eq_true rfl) (by omega) rfl rfl (pm_zc _) (hq sc _ (by omega)) (fun M4 hq => ?_)
      refine fr_aload_n (pc := 42) dX9_readLine_42 rfl rfl ?_
      refine fr_inVI (a := 72) (as := []) (rest := []) (ls' := [(2, 72), (9, 0), (9, 0)]) (c1 := 0) (c2 := 0) (pc := 43) dX9_readLine_43 pl_9_63 rfl ⟨Nat.le_of_ble_eq_true rfl, Nat.le_of_ble_eq_true rfl⟩ rfl rfl rfl s0_72 (Nat.le_of_ble_eq_true rfl) (by omega) rfl rfl (pm_zc _) (hq sc _ (by omega)) (fun r7 M6 hq => ?_)
      refine fr_istore_n (ls2 := [(2, 72), (0, r7), (9, 0), (9, 0), (9, 0), (9, 0)]) (pc := 46) dX9_readLine_46 rfl (Nat.le_of_ble_eq_true rfl) rfl ?_
      refine fr_aload_n (pc := 47) dX9_readLine_47 rfl rfl ?_
      refine fr_inVI (a := 72) (as := []) (rest := []) (ls' := [(2, 72), (9, 0), (9, 0)]) (c1 := 0) (c2 := 0) (pc := 48) dX9_readLine_48 pl_9_63 rfl ⟨Nat.le_of_ble_eq_true rfl, Nat.le_of_ble_eq_true rfl⟩ rfl rfl rfl s0_72 (Nat.le_of_ble_eq_true rfl) (by omega) rfl rfl (pm_zc _) (hq sc _ (by omega)) (fun r9 M8 hq => ?_)
      refine fr_istore_n (ls2 := [(2, 72), (0, r7), (0, r9), (9, 0), (9, 0), (9, 0)]) (pc := 51) dX9_readLine_51 rfl (Nat.le_of_ble_eq_true rfl) rfl ?_
      refine fr_aload_n (pc := 52) dX9_readLine_52 rfl rfl ?_
      refine fr_inVI (a := 72) (as := []) (rest := []) (ls' := [(2, 72), (9, 0), (9, 0)]) (c1 := 0) (c2 := 0) (pc := 53) dX9_readLine_53 pl_9_63 rfl ⟨Nat.le_of_ble_eq_true rfl, Nat.le_of_ble_eq_true rfl⟩ rfl rfl rfl s0_72 (Nat.le_of_ble_eq_true rfl) (by omega) rfl rfl (pm_zc _) (hq sc _ (by omega)) (fun r11 M10 hq => ?_)
      refine fr_istore_n (ls2 := [(2, 72), (0, r7), (0, r9), (0, r11), (9, 0), (9, 0)]) (pc := 56) dX9_readLine_56 rfl (Nat.le_of_ble_eq_true rfl) rfl ?_
      refine fr_aload_n (pc := 57) dX9_readLine_57 rfl rfl ?_
      refine fr_getr (a := 72) (pc := 58) dX9_readLine_58 rfl pf_9_9 s0_72 rfl rf_72_0 ?_
      refine fr_ldcs (pc := 61) dX9_readLine_61 rfl rfl ?_
      refine fr_inVV (a := 70) (as := [(3, 8)]) (rest := []) (ls' := [(2, 70), (3, 8)]) (c1 := 0) (c2 := 0) (pc := 63) dX9_readLine_63 pl_9_59 rfl ⟨Nat.le_of_ble_eq_true rfl, Nat.le_of_ble_eq_true rfl⟩ rfl rfl rfl s0_70 (Nat.le_of_ble_eq_true rfl) (by omega) rfl rfl (pm_zc _) (hq sc _ (by omega)) (fun M12 hq => ?_)
      refine fr_aload_n (pc := 66) dX9_readLine_66 rfl rfl ?_
      refine fr_inVI (a := 72) (as := []) (rest := []) (ls' := [(2, 72), (9, 0), (9, 0)]) (c1 := 0) (c2 := 0) (pc := 67) dX9_readLine_67 pl_9_63 rfl ⟨Nat.le_of_ble_eq_true rfl, Nat.le_of_ble_eq_true rfl⟩ rfl rfl rfl s0_72 (Nat.le_of_ble_eq_true rfl) (by omega) rfl rfl (pm_zc _) (hq sc _ (by omega)) (fun r15 M14 hq => ?_)
      refine fr_istore (ls2 := [(2, 72), (0, r7), (0, r9), (0, r11), (0, r15), (9, 0)]) (pc := 70) dX9_readLine_70 rfl (Nat.le_of_ble_eq_true rfl) rfl ?_
      refine fr_aload_n (pc := 72) dX9_readLine_72 rfl rfl ?_
      refine fr_getr (a := 72) (pc := 73) dX9_readLine_73 rfl pf_9_9 s0_72 rfl rf_72_0 ?_
      refine fr_ldcs (pc := 76) dX9_readLine_76 rfl rfl ?_
      refine fr_inVI (a := 70) (as := [(3, 9)]) (rest := []) (ls' := [(2, 70), (3, 9), (9, 0)]) (c1 := 0) (c2 := 0) (pc := 78) dX9_readLine_78 pl_9_52 rfl ⟨Nat.le_of_ble_eq_true rfl, Nat.le_of_ble_eq_true rfl⟩ rfl rfl rfl s0_70 (Nat.le_of_ble_eq_true rfl) (by omega) rfl rfl (pm_zc _) (hq sc _ (by omega)) (fun r17 M16 hq => ?_)
      refine fr_istore (ls2 := [(2, 72), (0, r7), (0, r9), (0, r11), (0, r15), (0, r17)]) (pc := 81) dX9_readLine_81 rfl (Nat.le_of_ble_eq_true rfl) rfl ?_
      refine fr_iload (pc := 83) dX9_readLine_83 rfl rfl ?_
      refine fr_ifc_eq (tg := 95) (pc := 85) dX9_readLine_85 rfl hq (fun hc18 hq => ?_) (fun hc18 hq => ?_)
      · refine fr_aload_n (pc := 95) dX9_readLine_95 rfl rfl ?_
        obtain ⟨ho19, hq⟩ := hq
        refine fr_getf (a := 72) (i := 1) (v := 18) (t := 2) (pc := 96) dX9_readLine_96 rfl pf_9_15 rfl s0_72 rfl ho19 ?_
        refine fr_iload_n (pc := 99) dX9_readLine_99 rfl rfl ?_
        refine fr_iload_n (pc := 100) dX9_readLine_100 rfl rfl ?_
        refine fr_iload_n (pc := 101) dX9_readLine_101 rfl rfl ?_
        refine fr_iload (pc := 102) dX9_readLine_102 rfl rfl ?_
        refine fr_iload (pc := 104) dX9_readLine_104 rfl rfl ?_
        refine fr_inVV (a := 18) (as := [(0, r7), (0, r9), (0, r11), (0, r15), (0, r17)]) (rest := []) (ls' := [(2, 18), (0, r7), (0, r9), (0, r11), (0, r15), (0, r17), (9, 0)]) (c1 := 0) (c2 := 0) (pc := 106) dX9_readLine_106 pl_9_71 rfl ⟨Nat.le_of_ble_eq_true rfl, Nat.le_of_ble_eq_true rfl⟩ rfl rfl rfl s0_18 (Nat.le_of_ble_eq_true rfl) (by omega) rfl rfl (pm_zc _) (hq sc _ (by omega)) (fun M20 hq => ?_)
        exact fr_vret (pc := 109) dX9_readLine_109 rfl hq
      · refine fr_aload_n (pc := 88) dX9_readLine_88 rfl rfl ?_
        refine fr_getr (a := 72) (pc := 89) dX9_readLine_89 rfl pf_9_9 s0_72 rfl rf_72_0 ?_
        refine fr_inVV (a := 70) (as := []) (rest := []) (ls' := [(2, 70), (9, 0)]) (c1 := 0) (c2 := 0) (pc := 92) dX9_readLine_92 pl_9_37 rfl ⟨Nat.le_of_ble_eq_true rfl, Nat.le_of_ble_eq_true rfl⟩ rfl rfl rfl s0_70 (Nat.le_of_ble_eq_true rfl) (by omega) rfl rfl (pm_zc _) (hq sc _ (by omega)) (fun M22 hq => ?_)
        refine fr_aload_n (pc := 95) dX9_readLine_95 rfl rfl ?_
        obtain ⟨ho24, hq⟩ := hq
        refine fr_getf (a := 72) (i := 1) (v := 18) (t := 2) (pc := 96) dX9_readLine_96 rfl pf_9_15 rfl s0_72 rfl ho24 ?_
        refine fr_iload_n (pc := 99) dX9_readLine_99 rfl rfl ?_
        refine fr_iload_n (pc := 100) dX9_readLine_100 rfl rfl ?_
        refine fr_iload_n (pc := 101) dX9_readLine_101 rfl rfl ?_
        refine fr_iload (pc := 102) dX9_readLine_102 rfl rfl ?_
        refine fr_iload (pc := 104) dX9_readLine_104 rfl rfl ?_
        refine fr_inVV (a := 18) (as := [(0, r7), (0, r9), (0, r11), (0, r15), (0, r17)]) (rest := []) (ls' := [(2, 18), (0, r7), (0, r9), (0, r11), (0, r15), (0, r17), (9, 0)]) (c1 := 0) (c2 := 0) (pc := 106) dX9_readLine_106 pl_9_71 rfl ⟨Nat.le_of_ble_eq_true rfl, Nat.le_of_ble_eq_true rfl⟩ rfl rfl rfl s0_18 (Nat.le_of_ble_eq_true rfl) (by omega) rfl rfl (pm_zc _) (hq sc _ (by omega)) (fun M25 hq => ?_)
        exact fr_vret (pc := 109) dX9_readLine_109 rfl hq
    · refine fr_aload_n (pc := 12) dX9_readLine_12 rfl rfl ?_
      obtain ⟨ho27, hq⟩ := hq
      refine fr_getf (a := 72) (i := 1) (v := 18) (t := 2) (pc := 13) dX9_readLine_13 rfl pf_9_15 rfl s0_72 rfl ho27 ?_
      refine fr_getf (a := 18) (i := 1) (v := gI M1 18 1) (t := 0) (pc := 16) dX9_readLine_16 rfl pf_9_56 rfl s0_18 rfl rfl ?_
      refine fr_bipush (pc := 19) dX9_readLine_19 (by decide) ?_
      refine fr_icm_lt (tg := 33) (pc := 21) dX9_readLine_21 rfl hq (fun hc28 hq => ?_) (fun hc28 hq => ?_)
      · refine fr_aload_n (pc := 33) dX9_readLine_33 rfl rfl ?_
        refine fr_getr (a := 72) (pc := 34) dX9_readLine_34 rfl pf_9_9 s0_72 rfl rf_72_0 ?_
        refine fr_ldcs (pc := 37) dX9_readLine_37 rfl rfl ?_
        refine fr_inVV (a := 70) (as := [(3, 7)]) (rest := []) (ls' := [(2, 70), (3, 7)]) (c1 := 0) (c2 := 0) (pc := 39) dX9_readLine_39 pl_9_59 rfl ⟨Nat.le_of_ble_eq_true rfl, Nat.le_of_ble_eq_true rfl⟩ rfl rfl rfl s0_70 (Nat.le_of_ble_eq_true rfl) (by omega) rfl rfl (pm_zc _) (hq sc _ (by omega)) (fun M29 hq => ?_)
        refine fr_aload_n (pc := 42) dX9_readLine_42 rfl rfl ?_
        refine fr_inVI (a := 72) (as := []) (rest := []) (ls' := [(2, 72), (9, 0), (9, 0)]) (c1 := 0) (c2 := 0) (pc := 43) dX9_readLine_43 pl_9_63 rfl ⟨Nat.le_of_ble_eq_true rfl, Nat.le_of_ble_eq_true rfl⟩ rfl rfl rfl s0_72 (Nat.le_of_ble_eq_true rfl) (by omega) rfl rfl (pm_zc _) (hq sc _ (by omega)) (fun r32 M31 hq => ?_)
        refine fr_istore_n (ls2 := [(2, 72), (0, r32), (9, 0), (9, 0), (9, 0), (9, 0)]) (pc := 46) dX9_readLine_46 rfl (Nat.le_of_ble_eq_true rfl) rfl ?_
        refine fr_aload_n (pc := 47) dX9_readLine_47 rfl rfl ?_
        refine fr_inVI (a := 72) (as := []) (rest := []) (ls' := [(2, 72), (9, 0), (9, 0)]) (c1 := 0) (c2 := 0) (pc := 48) dX9_readLine_48 pl_9_63 rfl ⟨Nat.le_of_ble_eq_true rfl, Nat.le_of_ble_eq_true rfl⟩ rfl rfl rfl s0_72 (Nat.le_of_ble_eq_true rfl) (by omega) rfl rfl (pm_zc _) (hq sc _ (by omega)) (fun r34 M33 hq => ?_)
        refine fr_istore_n (ls2 := [(2, 72), (0, r32), (0, r34), (9, 0), (9, 0), (9, 0)]) (pc := 51) dX9_readLine_51 rfl (Nat.le_of_ble_eq_true rfl) rfl ?_
        refine fr_aload_n (pc := 52) dX9_readLine_52 rfl rfl ?_
        refine fr_inVI (a := 72) (as := []) (rest := []) (ls' := [(2, 72), (9, 0), (9, 0)]) (c1 := 0) (c2 := 0) (pc := 53) dX9_readLine_53 pl_9_63 rfl ⟨Nat.le_of_ble_eq_true rfl, Nat.le_of_ble_eq_true rfl⟩ rfl rfl rfl s0_72 (Nat.le_of_ble_eq_true rfl) (by omega) rfl rfl (pm_zc _) (hq sc _ (by omega)) (fun r36 M35 hq => ?_)
        refine fr_istore_n (ls2 := [(2, 72), (0, r32), (0, r34), (0, r36), (9, 0), (9, 0)]) (pc := 56) dX9_readLine_56 rfl (Nat.le_of_ble_eq_true rfl) rfl ?_
        refine fr_aload_n (pc := 57) dX9_readLine_57 rfl rfl ?_
        refine fr_getr (a := 72) (pc := 58) dX9_readLine_58 rfl pf_9_9 s0_72 rfl rf_72_0 ?_
        refine fr_ldcs (pc := 61) dX9_readLine_61 rfl rfl ?_
        refine fr_inVV (a := 70) (as := [(3, 8)]) (rest := []) (ls' := [(2, 70), (3, 8)]) (c1 := 0) (c2 := 0) (pc := 63) dX9_readLine_63 pl_9_59 rfl ⟨Nat.le_of_ble_eq_true rfl, Nat.le_of_ble_eq_true rfl⟩ rfl rfl rfl s0_70 (Nat.le_of_ble_eq_true rfl) (by omega) rfl rfl (pm_zc _) (hq sc _ (by omega)) (fun M37 hq => ?_)
        refine fr_aload_n (pc := 66) dX9_readLine_66 rfl rfl ?_
        refine fr_inVI (a := 72) (as := []) (rest := []) (ls' := [(2, 72), (9, 0), (9, 0)]) (c1 := 0) (c2 := 0) (pc := 67) dX9_readLine_67 pl_9_63 rfl ⟨Nat.le_of_ble_eq_true rfl, Nat.le_of_ble_eq_true rfl⟩ rfl rfl rfl s0_72 (Nat.le_of_ble_eq_true rfl) (by omega) rfl rfl (pm_zc _) (hq sc _ (by omega)) (fun r40 M39 hq => ?_)
        refine fr_istore (ls2 := [(2, 72), (0, r32), (0, r34), (0, r36), (0, r40), (9, 0)]) (pc := 70) dX9_readLine_70 rfl (Nat.le_of_ble_eq_true rfl) rfl ?_
        refine fr_aload_n (pc := 72) dX9_readLine_72 rfl rfl ?_
        refine fr_getr (a := 72) (pc := 73) dX9_readLine_73 rfl pf_9_9 s0_72 rfl rf_72_0 ?_
        refine fr_ldcs (pc := 76) dX9_readLine_76 rfl rfl ?_
        refine fr_inVI (a := 70) (as := [(3, 9)]) (rest := []) (ls' := [(2, 70), (3, 9), (9, 0)]) (c1 := 0) (c2 := 0) (pc := 78) dX9_readLine_78 pl_9_52 rfl ⟨Nat.le_of_ble_eq_true rfl, Nat.le_of_ble_eq_true rfl⟩ rfl rfl rfl s0_70 (Nat.le_of_ble_eq_true rfl) (by omega) rfl rfl (pm_zc _) (hq sc _ (by omega)) (fun r42 M41 hq => ?_)
        refine fr_istore (ls2 := [(2, 72), (0, r32), (0, r34), (0, r36), (0, r40), (0, r42)]) (pc := 81) dX9_readLine_81 rfl (Nat.le_of_ble_eq_true rfl) rfl ?_
        refine fr_iload (pc := 83) dX9_readLine_83 rfl rfl ?_
        refine fr_ifc_eq (tg := 95) (pc := 85) dX9_readLine_85 rfl hq (fun hc43 hq => ?_) (fun hc43 hq => ?_)
        · refine fr_aload_n (pc := 95) dX9_readLine_95 rfl rfl ?_
          obtain ⟨ho44, hq⟩ := hq
          refine fr_getf (a := 72) (i := 1) (v := 18) (t := 2) (pc := 96) dX9_readLine_96 rfl pf_9_15 rfl s0_72 rfl ho44 ?_
          refine fr_iload_n (pc := 99) dX9_readLine_99 rfl rfl ?_
          refine fr_iload_n (pc := 100) dX9_readLine_100 rfl rfl ?_
          refine fr_iload_n (pc := 101) dX9_readLine_101 rfl rfl ?_
          refine fr_iload (pc := 102) dX9_readLine_102 rfl rfl ?_
          refine fr_iload (pc := 104) dX9_readLine_104 rfl rfl ?_
          refine fr_inVV (a := 18) (as := [(0, r32), (0, r34), (0, r36), (0, r40), (0, r42)]) (rest := []) (ls' := [(2, 18), (0, r32), (0, r34), (0, r36), (0, r40), (0, r42), (9, 0)]) (c1 := 0) (c2 := 0) (pc := 106) dX9_readLine_106 pl_9_71 rfl ⟨Nat.le_of_ble_eq_true rfl, Nat.le_of_ble_eq_true rfl⟩ rfl rfl rfl s0_18 (Nat.le_of_ble_eq_true rfl) (by omega) rfl rfl (pm_zc _) (hq sc _ (by omega)) (fun M45 hq => ?_)
          exact fr_vret (pc := 109) dX9_readLine_109 rfl hq
        · refine fr_aload_n (pc := 88) dX9_readLine_88 rfl rfl ?_
          refine fr_getr (a := 72) (pc := 89) dX9_readLine_89 rfl pf_9_9 s0_72 rfl rf_72_0 ?_
          refine fr_inVV (a := 70) (as := []) (rest := []) (ls' := [(2, 70), (9, 0)]) (c1 := 0) (c2 := 0) (pc := 92) dX9_readLine_92 pl_9_37 rfl ⟨Nat.le_of_ble_eq_true rfl, Nat.le_of_ble_eq_true rfl⟩ rfl rfl rfl s0_70 (Nat.le_of_ble_eq_true rfl) (by omega) rfl rfl (pm_zc _) (hq sc _ (by omega)) (fun M47 hq => ?_)
          refine fr_aload_n (pc := 95) dX9_readLine_95 rfl rfl ?_
          obtain ⟨ho49, hq⟩ := hq
          refine fr_getf (a := 72) (i := 1) (v := 18) (t := 2) (pc := 96) dX9_readLine_96 rfl pf_9_15 rfl s0_72 rfl ho49 ?_
          refine fr_iload_n (pc := 99) dX9_readLine_99 rfl rfl ?_
          refine fr_iload_n (pc := 100) dX9_readLine_100 rfl rfl ?_
          refine fr_iload_n (pc := 101) dX9_readLine_101 rfl rfl ?_
          refine fr_iload (pc := 102) dX9_readLine_102 rfl rfl ?_
          refine fr_iload (pc := 104) dX9_readLine_104 rfl rfl ?_
          refine fr_inVV (a := 18) (as := [(0, r32), (0, r34), (0, r36), (0, r40), (0, r42)]) (rest := []) (ls' := [(2, 18), (0, r32), (0, r34), (0, r36), (0, r40), (0, r42), (9, 0)]) (c1 := 0) (c2 := 0) (pc := 106) dX9_readLine_106 pl_9_71 rfl ⟨Nat.le_of_ble_eq_true rfl, Nat.le_of_ble_eq_true rfl⟩ rfl rfl rfl s0_18 (Nat.le_of_ble_eq_true rfl) (by omega) rfl rfl (pm_zc _) (hq sc _ (by omega)) (fun M50 hq => ?_)
          exact fr_vret (pc := 109) dX9_readLine_109 rfl hq
      · refine fr_aload_n (pc := 24) dX9_readLine_24 rfl rfl ?_
        refine fr_getr (a := 72) (pc := 25) dX9_readLine_25 rfl pf_9_9 s0_72 rfl rf_72_0 ?_
        refine fr_iconst (pc := 28) dX9_readLine_28 (by decide) ?_
        refine fr_inVV (a := 70) (as := [(0, 2)]) (rest := []) (ls' := [(2, 70), (0, 2)]) (c1 := 0) (c2 := 0) (pc := 29) dX9_readLine_29 pl_9_44 rfl ⟨Nat.le_of_ble_eq_true rfl, Nat.le_of_ble_eq_true rfl⟩ rfl rfl rfl s0_70 (Nat.le_of_ble_eq_true rfl) (by omega) rfl rfl (pm_zc _) ?_ (fun M' h => h)
        refine fr_aload_n (pc := 0) dX7_refuse_0 rfl rfl ?_
        refine fr_getf (a := 70) (i := 6) (v := gI M1 70 6) (t := 0) (pc := 1) dX7_refuse_1 rfl pf_7_31 rfl s0_70 rfl rfl ?_
        refine fr_ifc_ne (tg := 25) (pc := 4) dX7_refuse_4 rfl hq (fun hc52 hq => ?_) (fun hc52 hq => ?_)
        · refine fr_aload_n (pc := 7) dX7_refuse_7 rfl rfl ?_
          refine fr_bipush (pc := 8) dX7_refuse_8 (by decide) ?_
          refine fr_aload_n (pc := 10) dX7_refuse_10 rfl rfl ?_
          refine fr_getf (a := 70) (i := 3) (v := gI M1 70 3) (t := 0) (pc := 11) dX7_refuse_11 rfl pf_7_37 rfl s0_70 rfl rfl ?_
          refine fr_imul (z := w32 (8 * (gI M1 70 3))) (pc := 14) dX7_refuse_14 rfl ?_
          refine fr_iload_n (pc := 15) dX7_refuse_15 rfl rfl ?_
          refine fr_iadd (z := w32 ((w32 (8 * (gI M1 70 3))) + 2)) (pc := 16) dX7_refuse_16 rfl ?_
          refine fr_put (a := 70) (i := 6) (pc := 17) dX7_refuse_17 rfl pf_7_31 rfl s0_70 rfl rfl nf_70_6 rfl ?_
          refine fr_aload_n (pc := 20) dX7_refuse_20 rfl rfl ?_
          refine fr_iconst (pc := 21) dX7_refuse_21 (by decide) ?_
          refine fr_put (a := 70) (i := 4) (pc := 22) dX7_refuse_22 rfl pf_7_40 rfl s0_70 rfl rfl nf_70_4 rfl ?_
          refine fr_vret (pc := 25) dX7_refuse_25 rfl ?_
          exact fr_vret (pc := 32) dX9_readLine_32 rfl hq
        · refine fr_vret (pc := 25) dX7_refuse_25 rfl ?_
          exact fr_vret (pc := 32) dX9_readLine_32 rfl hq
  · refine fr_aload_n (pc := 0) dX9_readLine_0 rfl rfl ?_
    refine fr_getr (a := 72) (pc := 1) dX9_readLine_1 rfl pf_9_9 s0_72 rfl rf_72_0 ?_
    refine fr_ldcs (pc := 4) dX9_readLine_4 rfl rfl ?_
    refine fr_inVI (a := 70) (as := [(3, 7)]) (rest := []) (ls' := [(2, 70), (3, 7), (9, 0)]) (c1 := 0) (c2 := 0) (pc := 6) dX9_readLine_6 pl_9_52 rfl ⟨Nat.le_of_ble_eq_true rfl, Nat.le_of_ble_eq_true rfl⟩ rfl rfl rfl s0_70 (Nat.le_of_ble_eq_true rfl) (by omega) rfl rfl (pm_zc _) (hq sc _ (by omega)) (fun r2 M1 hq => ?_)
    refine fr_ifc_eq (tg := 33) (pc := 9) dX9_readLine_9 rfl hq (fun hc3 hq => ?_) (fun hc3 hq => ?_)
    · refine fr_aload_n (pc := 33) dX9_readLine_33 rfl rfl ?_
      refine fr_getr (a := 72) (pc := 34) dX9_readLine_34 rfl pf_9_9 s0_72 rfl rf_72_0 ?_
      refine fr_ldcs (pc := 37) dX9_readLine_37 rfl rfl ?_
      refine fr_inVV (a := 70) (as := [(3, 7)]) (rest := []) (ls' := [(2, 70), (3, 7)]) (c1 := 0) (c2 := 0) (pc := 39) dX9_readLine_39 pl_9_59 rfl ⟨Nat.le_of_ble_eq_true rfl, Nat.le_of_ble_eq_true rfl⟩ rfl rfl rfl s0_70 (Nat.le_of_ble_eq_true rfl) (by omega) rfl rfl (pm_zc _) (hq sc _ (by omega)) (fun M4 hq => ?_)
      refine fr_aload_n (pc := 42) dX9_readLine_42 rfl rfl ?_
      refine fr_inVI (a := 72) (as := []) (rest := []) (ls' := [(2, 72), (9, 0), (9, 0)]) (c1 := 0) (c2 := 0) (pc := 43) dX9_readLine_43 pl_9_63 rfl ⟨Nat.le_of_ble_eq_true rfl, Nat.le_of_ble_eq_true rfl⟩ rfl rfl rfl s0_72 (Nat.le_of_ble_eq_true rfl) (by omega) rfl rfl (pm_zc _) (hq sc _ (by omega)) (fun r7 M6 hq => ?_)
      refine fr_istore_n (ls2 := [(2, 72), (0, r7), (9, 0), (9, 0), (9, 0), (9, 0)]) (pc := 46) dX9_readLine_46 rfl (Nat.le_of_ble_eq_true rfl) rfl ?_
      refine fr_aload_n (pc := 47) dX9_readLine_47 rfl rfl ?_
      refine fr_inVI (a := 72) (as := []) (rest := []) (ls' := [(2, 72), (9, 0), (9, 0)]) (c1 := 0) (c2 := 0) (pc := 48) dX9_readLine_48 pl_9_63 rfl ⟨Nat.le_of_ble_eq_true rfl, Nat.le_of_ble_eq_true rfl⟩ rfl rfl rfl s0_72 (Nat.le_of_ble_eq_true rfl) (by omega) rfl rfl (pm_zc _) (hq sc _ (by omega)) (fun r9 M8 hq => ?_)
      refine fr_istore_n (ls2 := [(2, 72), (0, r7), (0, r9), (9, 0), (9, 0), (9, 0)]) (pc := 51) dX9_readLine_51 rfl (Nat.le_of_ble_eq_true rfl) rfl ?_
      refine fr_aload_n (pc := 52) dX9_readLine_52 rfl rfl ?_
      refine fr_inVI (a := 72) (as := []) (rest := []) (ls' := [(2, 72), (9, 0), (9, 0)]) (c1 := 0) (c2 := 0) (pc := 53) dX9_readLine_53 pl_9_63 rfl ⟨Nat.le_of_ble_eq_true rfl, Nat.le_of_ble_eq_true rfl⟩ rfl rfl rfl s0_72 (Nat.le_of_ble_eq_true rfl) (by omega) rfl rfl (pm_zc _) (hq sc _ (by omega)) (fun r11 M10 hq => ?_)
      refine fr_istore_n (ls2 := [(2, 72), (0, r7), (0, r9), (0, r11), (9, 0), (9, 0)]) (pc := 56) dX9_readLine_56 rfl (Nat.le_of_ble_eq_true rfl) rfl ?_
      refine fr_aload_n (pc := 57) dX9_readLine_57 rfl rfl ?_
      refine fr_getr (a := 72) (pc := 58) dX9_readLine_58 rfl pf_9_9 s0_72 rfl rf_72_0 ?_
      refine fr_ldcs (pc := 61) dX9_readLine_61 rfl rfl ?_
      refine fr_inVV (a := 70) (as := [(3, 8)]) (rest := []) (ls' := [(2, 70), (3, 8)]) (c1 := 0) (c2 := 0) (pc := 63) dX9_readLine_63 pl_9_59 rfl ⟨Nat.le_of_ble_eq_true rfl, Nat.le_of_ble_eq_true rfl⟩ rfl rfl rfl s0_70 (Nat.le_of_ble_eq_true rfl) (by omega) rfl rfl (pm_zc _) (hq sc _ (by omega)) (fun M12 hq => ?_)
      refine fr_aload_n (pc := 66) dX9_readLine_66 rfl rfl ?_
      refine fr_inVI (a := 72) (as := []) (rest := []) (ls' := [(2, 72), (9, 0), (9, 0)]) (c1 := 0) (c2 := 0) (pc := 67) dX9_readLine_67 pl_9_63 rfl ⟨Nat.le_of_ble_eq_true rfl, Nat.le_of_ble_eq_true rfl⟩ rfl rfl rfl s0_72 (Nat.le_of_ble_eq_true rfl) (by omega) rfl rfl (pm_zc _) (hq sc _ (by omega)) (fun r15 M14 hq => ?_)
      refine fr_istore (ls2 := [(2, 72), (0, r7), (0, r9), (0, r11), (0, r15), (9, 0)]) (pc := 70) dX9_readLine_70 rfl (Nat.le_of_ble_eq_true rfl) rfl ?_
      refine fr_aload_n (pc := 72) dX9_readLine_72 rfl rfl ?_
      refine fr_getr (a := 72) (pc := 73) dX9_readLine_73 rfl pf_9_9 s0_72 rfl rf_72_0 ?_
      refine fr_ldcs (pc := 76) dX9_readLine_76 rfl rfl ?_
      refine fr_inVI (a := 70) (as := [(3, 9)]) (rest := []) (ls' := [(2, 70), (3, 9), (9, 0)]) (c1 := 0) (c2 := 0) (pc := 78) dX9_readLine_78 pl_9_52 rfl ⟨Nat.le_of_ble_eq_true rfl, Nat.le_of_ble_eq_true rfl⟩ rfl rfl rfl s0_70 (Nat.le_of_ble_eq_true rfl) (by omega) rfl rfl (pm_zc _) (hq sc _ (by omega)) (fun r17 M16 hq => ?_)
      refine fr_istore (ls2 := [(2, 72), (0, r7), (0, r9), (0, r11), (0, r15), (0, r17)]) (pc := 81) dX9_readLine_81 rfl (Nat.le_of_ble_eq_true rfl) rfl ?_
      refine fr_iload (pc := 83) dX9_readLine_83 rfl rfl ?_
      refine fr_ifc_eq (tg := 95) (pc := 85) dX9_readLine_85 rfl hq (fun hc18 hq => ?_) (fun hc18 hq => ?_)
      · refine fr_aload_n (pc := 95) dX9_readLine_95 rfl rfl ?_
        obtain ⟨ho19, hq⟩ := hq
        refine fr_getf (a := 72) (i := 1) (v := 52) (t := 2) (pc := 96) dX9_readLine_96 rfl pf_9_15 rfl s0_72 rfl ho19 ?_
        refine fr_iload_n (pc := 99) dX9_readLine_99 rfl rfl ?_
        refine fr_iload_n (pc := 100) dX9_readLine_100 rfl rfl ?_
        refine fr_iload_n (pc := 101) dX9_readLine_101 rfl rfl ?_
        refine fr_iload (pc := 102) dX9_readLine_102 rfl rfl ?_
        refine fr_iload (pc := 104) dX9_readLine_104 rfl rfl ?_
        refine fr_inVV (a := 52) (as := [(0, r7), (0, r9), (0, r11), (0, r15), (0, r17)]) (rest := []) (ls' := [(2, 52), (0, r7), (0, r9), (0, r11), (0, r15), (0, r17), (9, 0)]) (c1 := 0) (c2 := 0) (pc := 106) dX9_readLine_106 pl_9_71 rfl ⟨Nat.le_of_ble_eq_true rfl, Nat.le_of_ble_eq_true rfl⟩ rfl rfl rfl s0_52 (Nat.le_of_ble_eq_true rfl) (by omega) rfl rfl (pm_zc _) (hq sc _ (by omega)) (fun M20 hq => ?_)
        exact fr_vret (pc := 109) dX9_readLine_109 rfl hq
      · refine fr_aload_n (pc := 88) dX9_readLine_88 rfl rfl ?_
        refine fr_getr (a := 72) (pc := 89) dX9_readLine_89 rfl pf_9_9 s0_72 rfl rf_72_0 ?_
        refine fr_inVV (a := 70) (as := []) (rest := []) (ls' := [(2, 70), (9, 0)]) (c1 := 0) (c2 := 0) (pc := 92) dX9_readLine_92 pl_9_37 rfl ⟨Nat.le_of_ble_eq_true rfl, Nat.le_of_ble_eq_true rfl⟩ rfl rfl rfl s0_70 (Nat.le_of_ble_eq_true rfl) (by omega) rfl rfl (pm_zc _) (hq sc _ (by omega)) (fun M22 hq => ?_)
        refine fr_aload_n (pc := 95) dX9_readLine_95 rfl rfl ?_
        obtain ⟨ho24, hq⟩ := hq
        refine fr_getf (a := 72) (i := 1) (v := 52) (t := 2) (pc := 96) dX9_readLine_96 rfl pf_9_15 rfl s0_72 rfl ho24 ?_
        refine fr_iload_n (pc := 99) dX9_readLine_99 rfl rfl ?_
        refine fr_iload_n (pc := 100) dX9_readLine_100 rfl rfl ?_
        refine fr_iload_n (pc := 101) dX9_readLine_101 rfl rfl ?_
        refine fr_iload (pc := 102) dX9_readLine_102 rfl rfl ?_
        refine fr_iload (pc := 104) dX9_readLine_104 rfl rfl ?_
        refine fr_inVV (a := 52) (as := [(0, r7), (0, r9), (0, r11), (0, r15), (0, r17)]) (rest := []) (ls' := [(2, 52), (0, r7), (0, r9), (0, r11), (0, r15), (0, r17), (9, 0)]) (c1 := 0) (c2 := 0) (pc := 106) dX9_readLine_106 pl_9_71 rfl ⟨Nat.le_of_ble_eq_true rfl, Nat.le_of_ble_eq_true rfl⟩ rfl rfl rfl s0_52 (Nat.le_of_ble_eq_true rfl) (by omega) rfl rfl (pm_zc _) (hq sc _ (by omega)) (fun M25 hq => ?_)
        exact fr_vret (pc := 109) dX9_readLine_109 rfl hq
    · refine fr_aload_n (pc := 12) dX9_readLine_12 rfl rfl ?_
      obtain ⟨ho27, hq⟩ := hq
      refine fr_getf (a := 72) (i := 1) (v := 52) (t := 2) (pc := 13) dX9_readLine_13 rfl pf_9_15 rfl s0_72 rfl ho27 ?_
      refine fr_getf (a := 52) (i := 1) (v := gI M1 52 1) (t := 0) (pc := 16) dX9_readLine_16 rfl pf_9_56 rfl s0_52 rfl rfl ?_
      refine fr_bipush (pc := 19) dX9_readLine_19 (by decide) ?_
      refine fr_icm_lt (tg := 33) (pc := 21) dX9_readLine_21 rfl hq (fun hc28 hq => ?_) (fun hc28 hq => ?_)
      · refine fr_aload_n (pc := 33) dX9_readLine_33 rfl rfl ?_
        refine fr_getr (a := 72) (pc := 34) dX9_readLine_34 rfl pf_9_9 s0_72 rfl rf_72_0 ?_
        refine fr_ldcs (pc := 37) dX9_readLine_37 rfl rfl ?_
        refine fr_inVV (a := 70) (as := [(3, 7)]) (rest := []) (ls' := [(2, 70), (3, 7)]) (c1 := 0) (c2 := 0) (pc := 39) dX9_readLine_39 pl_9_59 rfl ⟨Nat.le_of_ble_eq_true rfl, Nat.le_of_ble_eq_true rfl⟩ rfl rfl rfl s0_70 (Nat.le_of_ble_eq_true rfl) (by omega) rfl rfl (pm_zc _) (hq sc _ (by omega)) (fun M29 hq => ?_)
        refine fr_aload_n (pc := 42) dX9_readLine_42 rfl rfl ?_
        refine fr_inVI (a := 72) (as := []) (rest := []) (ls' := [(2, 72), (9, 0), (9, 0)]) (c1 := 0) (c2 := 0) (pc := 43) dX9_readLine_43 pl_9_63 rfl ⟨Nat.le_of_ble_eq_true rfl, Nat.le_of_ble_eq_true rfl⟩ rfl rfl rfl s0_72 (Nat.le_of_ble_eq_true rfl) (by omega) rfl rfl (pm_zc _) (hq sc _ (by omega)) (fun r32 M31 hq => ?_)
        refine fr_istore_n (ls2 := [(2, 72), (0, r32), (9, 0), (9, 0), (9, 0), (9, 0)]) (pc := 46) dX9_readLine_46 rfl (Nat.le_of_ble_eq_true rfl) rfl ?_
        refine fr_aload_n (pc := 47) dX9_readLine_47 rfl rfl ?_
        refine fr_inVI (a := 72) (as := []) (rest := []) (ls' := [(2, 72), (9, 0), (9, 0)]) (c1 := 0) (c2 := 0) (pc := 48) dX9_readLine_48 pl_9_63 rfl ⟨Nat.le_of_ble_eq_true rfl, Nat.le_of_ble_eq_true rfl⟩ rfl rfl rfl s0_72 (Nat.le_of_ble_eq_true rfl) (by omega) rfl rfl (pm_zc _) (hq sc _ (by omega)) (fun r34 M33 hq => ?_)
        refine fr_istore_n (ls2 := [(2, 72), (0, r32), (0, r34), (9, 0), (9, 0), (9, 0)]) (pc := 51) dX9_readLine_51 rfl (Nat.le_of_ble_eq_true rfl) rfl ?_
        refine fr_aload_n (pc := 52) dX9_readLine_52 rfl rfl ?_
        refine fr_inVI (a := 72) (as := []) (rest := []) (ls' := [(2, 72), (9, 0), (9, 0)]) (c1 := 0) (c2 := 0) (pc := 53) dX9_readLine_53 pl_9_63 rfl ⟨Nat.le_of_ble_eq_true rfl, Nat.le_of_ble_eq_true rfl⟩ rfl rfl rfl s0_72 (Nat.le_of_ble_eq_true rfl) (by omega) rfl rfl (pm_zc _) (hq sc _ (by omega)) (fun r36 M35 hq => ?_)
        refine fr_istore_n (ls2 := [(2, 72), (0, r32), (0, r34), (0, r36), (9, 0), (9, 0)]) (pc := 56) dX9_readLine_56 rfl (Nat.le_of_ble_eq_true rfl) rfl ?_
        refine fr_aload_n (pc := 57) dX9_readLine_57 rfl rfl ?_
        refine fr_getr (a := 72) (pc := 58) dX9_readLine_58 rfl pf_9_9 s0_72 rfl rf_72_0 ?_
        refine fr_ldcs (pc := 61) dX9_readLine_61 rfl rfl ?_
        refine fr_inVV (a := 70) (as := [(3, 8)]) (rest := []) (ls' := [(2, 70), (3, 8)]) (c1 := 0) (c2 := 0) (pc := 63) dX9_readLine_63 pl_9_59 rfl ⟨Nat.le_of_ble_eq_true rfl, Nat.le_of_ble_eq_true rfl⟩ rfl rfl rfl s0_70 (Nat.le_of_ble_eq_true rfl) (by omega) rfl rfl (pm_zc _) (hq sc _ (by omega)) (fun M37 hq => ?_)
        refine fr_aload_n (pc := 66) dX9_readLine_66 rfl rfl ?_
        refine fr_inVI (a := 72) (as := []) (rest := []) (ls' := [(2, 72), (9, 0), (9, 0)]) (c1 := 0) (c2 := 0) (pc := 67) dX9_readLine_67 pl_9_63 rfl ⟨Nat.le_of_ble_eq_true rfl, Nat.le_of_ble_eq_true rfl⟩ rfl rfl rfl s0_72 (Nat.le_of_ble_eq_true rfl) (by omega) rfl rfl (pm_zc _) (hq sc _ (by omega)) (fun r40 M39 hq => ?_)
        refine fr_istore (ls2 := [(2, 72), (0, r32), (0, r34), (0, r36), (0, r40), (9, 0)]) (pc := 70) dX9_readLine_70 rfl (Nat.le_of_ble_eq_true rfl) rfl ?_
        refine fr_aload_n (pc := 72) dX9_readLine_72 rfl rfl ?_
        refine fr_getr (a := 72) (pc := 73) dX9_readLine_73 rfl pf_9_9 s0_72 rfl rf_72_0 ?_
        refine fr_ldcs (pc := 76) dX9_readLine_76 rfl rfl ?_
        refine fr_inVI (a := 70) (as := [(3, 9)]) (rest := []) (ls' := [(2, 70), (3, 9), (9, 0)]) (c1 := 0) (c2 := 0) (pc := 78) dX9_readLine_78 pl_9_52 rfl ⟨Nat.le_of_ble_eq_true rfl, Nat.le_of_ble_eq_true rfl⟩ rfl rfl rfl s0_70 (Nat.le_of_ble_eq_true rfl) (by omega) rfl rfl (pm_zc _) (hq sc _ (by omega)) (fun r42 M41 hq => ?_)
        refine fr_istore (ls2 := [(2, 72), (0, r32), (0, r34), (0, r36), (0, r40), (0, r42)]) (pc := 81) dX9_readLine_81 rfl (Nat.le_of_ble_eq_true rfl) rfl ?_
        refine fr_iload (pc := 83) dX9_readLine_83 rfl rfl ?_
        refine fr_ifc_eq (tg := 95) (pc := 85) dX9_readLine_85 rfl hq (fun hc43 hq => ?_) (fun hc43 hq => ?_)
        · refine fr_aload_n (pc := 95) dX9_readLine_95 rfl rfl ?_
          obtain ⟨ho44, hq⟩ := hq
          refine fr_getf (a := 72) (i := 1) (v := 52) (t := 2) (pc := 96) dX9_readLine_96 rfl pf_9_15 rfl s0_72 rfl ho44 ?_
          refine fr_iload_n (pc := 99) dX9_readLine_99 rfl rfl ?_
          refine fr_iload_n (pc := 100) dX9_readLine_100 rfl rfl ?_
          refine fr_iload_n (pc := 101) dX9_readLine_101 rfl rfl ?_
          refine fr_iload (pc := 102) dX9_readLine_102 rfl rfl ?_
          refine fr_iload (pc := 104) dX9_readLine_104 rfl rfl ?_
          refine fr_inVV (a := 52) (as := [(0, r32), (0, r34), (0, r36), (0, r40), (0, r42)]) (rest := []) (ls' := [(2, 52), (0, r32), (0, r34), (0, r36), (0, r40), (0, r42), (9, 0)]) (c1 := 0) (c2 := 0) (pc := 106) dX9_readLine_106 pl_9_71 rfl ⟨Nat.le_of_ble_eq_true rfl, Nat.le_of_ble_eq_true rfl⟩ rfl rfl rfl s0_52 (Nat.le_of_ble_eq_true rfl) (by omega) rfl rfl (pm_zc _) (hq sc _ (by omega)) (fun M45 hq => ?_)
          exact fr_vret (pc := 109) dX9_readLine_109 rfl hq
        · refine fr_aload_n (pc := 88) dX9_readLine_88 rfl rfl ?_
          refine fr_getr (a := 72) (pc := 89) dX9_readLine_89 rfl pf_9_9 s0_72 rfl rf_72_0 ?_
          refine fr_inVV (a := 70) (as := []) (rest := []) (ls' := [(2, 70), (9, 0)]) (c1 := 0) (c2 := 0) (pc := 92) dX9_readLine_92 pl_9_37 rfl ⟨Nat.le_of_ble_eq_true rfl, Nat.le_of_ble_eq_true rfl⟩ rfl rfl rfl s0_70 (Nat.le_of_ble_eq_true rfl) (by omega) rfl rfl (pm_zc _) (hq sc _ (by omega)) (fun M47 hq => ?_)
          refine fr_aload_n (pc := 95) dX9_readLine_95 rfl rfl ?_
          obtain ⟨ho49, hq⟩ := hq
          refine fr_getf (a := 72) (i := 1) (v := 52) (t := 2) (pc := 96) dX9_readLine_96 rfl pf_9_15 rfl s0_72 rfl ho49 ?_
          refine fr_iload_n (pc := 99) dX9_readLine_99 rfl rfl ?_
          refine fr_iload_n (pc := 100) dX9_readLine_100 rfl rfl ?_
          refine fr_iload_n (pc := 101) dX9_readLine_101 rfl rfl ?_
          refine fr_iload (pc := 102) dX9_readLine_102 rfl rfl ?_
          refine fr_iload (pc := 104) dX9_readLine_104 rfl rfl ?_
          refine fr_inVV (a := 52) (as := [(0, r32), (0, r34), (0, r36), (0, r40), (0, r42)]) (rest := []) (ls' := [(2, 52), (0, r32), (0, r34), (0, r36), (0, r40), (0, r42), (9, 0)]) (c1 := 0) (c2 := 0) (pc := 106) dX9_readLine_106 pl_9_71 rfl ⟨Nat.le_of_ble_eq_true rfl, Nat.le_of_ble_eq_true rfl⟩ rfl rfl rfl s0_52 (Nat.le_of_ble_eq_true rfl) (by omega) rfl rfl (pm_zc _) (hq sc _ (by omega)) (fun M50 hq => ?_)
          exact fr_vret (pc := 109) dX9_readLine_109 rfl hq
      · refine fr_aload_n (pc := 24) dX9_readLine_24 rfl rfl ?_
        refine fr_getr (a := 72) (pc := 25) dX9_readLine_25 rfl pf_9_9 s0_72 rfl rf_72_0 ?_
        refine fr_iconst (pc := 28) dX9_readLine_28 (by decide) ?_
        refine fr_inVV (a := 70) (as := [(0, 2)]) (rest := []) (ls' := [(2, 70), (0, 2)]) (c1 := 0) (c2 := 0) (pc := 29) dX9_readLine_29 pl_9_44 rfl ⟨Nat.le_of_ble_eq_true rfl, Nat.le_of_ble_eq_true rfl⟩ rfl rfl rfl s0_70 (Nat.le_of_ble_eq_true rfl) (by omega) rfl rfl (pm_zc _) ?_ (fun M' h => h)
        refine fr_aload_n (pc := 0) dX7_refuse_0 rfl rfl ?_
        refine fr_getf (a := 70) (i := 6) (v := gI M1 70 6) (t := 0) (pc := 1) dX7_refuse_1 rfl pf_7_31 rfl s0_70 rfl rfl ?_
        refine fr_ifc_ne (tg := 25) (pc := 4) dX7_refuse_4 rfl hq (fun hc52 hq => ?_) (fun hc52 hq => ?_)
        · refine fr_aload_n (pc := 7) dX7_refuse_7 rfl rfl ?_
          refine fr_bipush (pc := 8) dX7_refuse_8 (by decide) ?_
          refine fr_aload_n (pc := 10) dX7_refuse_10 rfl rfl ?_
          refine fr_getf (a := 70) (i := 3) (v := gI M1 70 3) (t := 0) (pc := 11) dX7_refuse_11 rfl pf_7_37 rfl s0_70 rfl rfl ?_
          refine fr_imul (z := w32 (8 * (gI M1 70 3))) (pc := 14) dX7_refuse_14 rfl ?_
          refine fr_iload_n (pc := 15) dX7_refuse_15 rfl rfl ?_
          refine fr_iadd (z := w32 ((w32 (8 * (gI M1 70 3))) + 2)) (pc := 16) dX7_refuse_16 rfl ?_
          refine fr_put (a := 70) (i := 6) (pc := 17) dX7_refuse_17 rfl pf_7_31 rfl s0_70 rfl rfl nf_70_6 rfl ?_
          refine fr_aload_n (pc := 20) dX7_refuse_20 rfl rfl ?_
          refine fr_iconst (pc := 21) dX7_refuse_21 (by decide) ?_
          refine fr_put (a := 70) (i := 4) (pc := 22) dX7_refuse_22 rfl pf_7_40 rfl s0_70 rfl rfl nf_70_4 rfl ?_
          refine fr_vret (pc := 25) dX7_refuse_25 rfl ?_
          exact fr_vret (pc := 32) dX9_readLine_32 rfl hq
        · refine fr_vret (pc := 25) dX7_refuse_25 rfl ?_
          exact fr_vret (pc := 32) dX9_readLine_32 rfl hq
theorem k7_expectWord_r {tx : Int} {M : pm_M} {K : pm_M → Prop} (htx : 0 ≤ tx ∧ tx < 10) (hq : k7_isWord tx M (fun r2 M1 => (if r2 = 0 then (if gI M1 70 6 = 0 then k7_advance (upI (upI M1 70 6 (w32 ((w32 (8 * (gI M1 70 3))) + 1))) 70 4 1) (fun M5 => K M5) else k7_advance M1 (fun M7 => K M7)) else k7_advance M1 (fun M9 => K M9)))) : k7_expectWord tx M K := by
  intro sc d hd
  refine fr_aload_n (pc := 0) dX7_expectWord_0 rfl rfl ?_
  refine fr_aload_n (pc := 1) dX7_expectWord_1 rfl rfl ?_
  refine fr_inVI (a := 70) (as := [(3, tx)]) (rest := []) (ls' := [(2, 70), (3, tx), (9, 0)]) (c1 := 0) (c2 := 0) (pc := 2) dX7_expectWord_2 pl_7_92 rfl ⟨Nat.le_of_ble_eq_true rfl, Nat.le_of_ble_eq_true rfl⟩ rfl rfl rfl s0_70 (Nat.le_of_ble_eq_true rfl) (by omega) rfl rfl (pm_zc _) (hq sc _ (by omega)) (fun r2 M1 hq => ?_)
  refine fr_ifc_ne (tg := 13) (pc := 5) dX7_expectWord_5 rfl hq (fun hc3 hq => ?_) (fun hc3 hq => ?_)
  · refine fr_aload_n (pc := 8) dX7_expectWord_8 rfl rfl ?_
    refine fr_iconst (pc := 9) dX7_expectWord_9 (by decide) ?_
    refine fr_inVV (a := 70) (as := [(0, 1)]) (rest := []) (ls' := [(2, 70), (0, 1)]) (c1 := 0) (c2 := 0) (pc := 10) dX7_expectWord_10 pl_7_66 rfl ⟨Nat.le_of_ble_eq_true rfl, Nat.le_of_ble_eq_true rfl⟩ rfl rfl rfl s0_70 (Nat.le_of_ble_eq_true rfl) (by omega) rfl rfl (pm_zc _) ?_ (fun M' h => h)
    refine fr_aload_n (pc := 0) dX7_refuse_0 rfl rfl ?_
    refine fr_getf (a := 70) (i := 6) (v := gI M1 70 6) (t := 0) (pc := 1) dX7_refuse_1 rfl pf_7_31 rfl s0_70 rfl rfl ?_
    refine fr_ifc_ne (tg := 25) (pc := 4) dX7_refuse_4 rfl hq (fun hc4 hq => ?_) (fun hc4 hq => ?_)
    · refine fr_aload_n (pc := 7) dX7_refuse_7 rfl rfl ?_
      refine fr_bipush (pc := 8) dX7_refuse_8 (by decide) ?_
      refine fr_aload_n (pc := 10) dX7_refuse_10 rfl rfl ?_
      refine fr_getf (a := 70) (i := 3) (v := gI M1 70 3) (t := 0) (pc := 11) dX7_refuse_11 rfl pf_7_37 rfl s0_70 rfl rfl ?_
      refine fr_imul (z := w32 (8 * (gI M1 70 3))) (pc := 14) dX7_refuse_14 rfl ?_
      refine fr_iload_n (pc := 15) dX7_refuse_15 rfl rfl ?_
      refine fr_iadd (z := w32 ((w32 (8 * (gI M1 70 3))) + 1)) (pc := 16) dX7_refuse_16 rfl ?_
      refine fr_put (a := 70) (i := 6) (pc := 17) dX7_refuse_17 rfl pf_7_31 rfl s0_70 rfl rfl nf_70_6 rfl ?_
      refine fr_aload_n (pc := 20) dX7_refuse_20 rfl rfl ?_
      refine fr_iconst (pc := 21) dX7_refuse_21 (by decide) ?_
      refine fr_put (a := 70) (i := 4) (pc := 22) dX7_refuse_22 rfl pf_7_40 rfl s0_70 rfl rfl nf_70_4 rfl ?_
      refine fr_vret (pc := 25) dX7_refuse_25 rfl ?_
      refine fr_aload_n (pc := 13) dX7_expectWord_13 rfl rfl ?_
      refine fr_inVV (a := 70) (as := []) (rest := []) (ls' := [(2, 70), (9, 0)]) (c1 := 0) (c2 := 0) (pc := 14) dX7_expectWord_14 pl_7_34 rfl ⟨Nat.le_of_ble_eq_true rfl, Nat.le_of_ble_eq_true rfl⟩ rfl rfl rfl s0_70 (Nat.le_of_ble_eq_true rfl) (by omega) rfl rfl (pm_zc _) (hq sc _ (by omega)) (fun M5 hq => ?_)
      exact fr_vret (pc := 17) dX7_expectWord_17 rfl hq
    · refine fr_vret (pc := 25) dX7_refuse_25 rfl ?_
      refine fr_aload_n (pc := 13) dX7_expectWord_13 rfl rfl ?_
      refine fr_inVV (a := 70) (as := []) (rest := []) (ls' := [(2, 70), (9, 0)]) (c1 := 0) (c2 := 0) (pc := 14) dX7_expectWord_14 pl_7_34 rfl ⟨Nat.le_of_ble_eq_true rfl, Nat.le_of_ble_eq_true rfl⟩ rfl rfl rfl s0_70 (Nat.le_of_ble_eq_true rfl) (by omega) rfl rfl (pm_zc _) (hq sc _ (by omega)) (fun M7 hq => ?_)
      exact fr_vret (pc := 17) dX7_expectWord_17 rfl hq
  · refine fr_aload_n (pc := 13) dX7_expectWord_13 rfl rfl ?_
    refine fr_inVV (a := 70) (as := []) (rest := []) (ls' := [(2, 70), (9, 0)]) (c1 := 0) (c2 := 0) (pc := 14) dX7_expectWord_14 pl_7_34 rfl ⟨Nat.le_of_ble_eq_true rfl, Nat.le_of_ble_eq_true rfl⟩ rfl rfl rfl s0_70 (Nat.le_of_ble_eq_true rfl) (by omega) rfl rfl (pm_zc _) (hq sc _ (by omega)) (fun M9 hq => ?_)
    exact fr_vret (pc := 17) dX7_expectWord_17 rfl hq
theorem k9_readNumber_r {M : pm_M} {K : Int → pm_M → Prop} (hq : (if gI M 70 4 = 4 then (if gI M 70 5 = 1 then k7_advance M (fun M3 => (if gI M3 70 4 = 3 then k7_advance M3 (fun M6 => K (w32 (-(gI M3 70 5))) M6) else (if gI M3 70 6 = 0 then k7_advance (upI (upI M3 70 6 (w32 ((w32 (8 * (gI M3 70 3))) + 1))) 70 4 1) (fun M9 => K (w32 (-(gI M3 70 5))) M9) else k7_advance M3 (fun M11 => K (w32 (-(gI M3 70 5))) M11)))) else (if gI M 70 4 = 3 then k7_advance M (fun M14 => K (gI M 70 5) M14) else (if gI M 70 6 = 0 then k7_advance (upI (upI M 70 6 (w32 ((w32 (8 * (gI M 70 3))) + 1))) 70 4 1) (fun M17 => K (gI M 70 5) M17) else k7_advance M (fun M19 => K (gI M 70 5) M19)))) else (if gI M 70 4 = 3 then k7_advance M (fun M22 => K (gI M 70 5) M22) else (if gI M 70 6 = 0 then k7_advance (upI (upI M 70 6 (w32 ((w32 (8 * (gI M 70 3))) + 1))) 70 4 1) (fun M25 => K (gI M 70 5) M25) else k7_advance M (fun M27 => K (gI M 70 5) M27))))) : k9_readNumber M K := by
  intro sc d hd
  refine fr_aload_n (pc := 0) dX9_readNumber_0 rfl rfl ?_
  refine fr_getr (a := 72) (pc := 1) dX9_readNumber_1 rfl pf_9_9 s0_72 rfl rf_72_0 ?_
  refine fr_iconst (pc := 4) dX9_readNumber_4 (by decide) ?_
  refine fr_inVI (a := 70) (as := [(0, 1)]) (rest := []) (ls' := [(2, 70), (0, 1)]) (c1 := 0) (c2 := 0) (pc := 5) dX9_readNumber_5 pl_9_75 rfl ⟨Nat.le_of_ble_eq_true rfl, Nat.le_of_ble_eq_true rfl⟩ rfl rfl rfl s0_70 (Nat.le_of_ble_eq_true rfl) (by omega) rfl rfl (pm_zc _) ?_ (fun y M' h => h)
  refine fr_aload_n (pc := 0) dX7_isSign_0 rfl rfl ?_
  refine fr_getf (a := 70) (i := 4) (v := gI M 70 4) (t := 0) (pc := 1) dX7_isSign_1 rfl pf_7_40 rfl s0_70 rfl rfl ?_
  refine fr_iconst (pc := 4) dX7_isSign_4 (by decide) ?_
  refine fr_icm_ne (tg := 20) (pc := 5) dX7_isSign_5 rfl hq (fun hc1 hq => ?_) (fun hc1 hq => ?_)
  · refine fr_aload_n (pc := 8) dX7_isSign_8 rfl rfl ?_
    refine fr_getf (a := 70) (i := 5) (v := gI M 70 5) (t := 0) (pc := 9) dX7_isSign_9 rfl pf_7_43 rfl s0_70 rfl rfl ?_
    refine fr_iload_n (pc := 12) dX7_isSign_12 rfl rfl ?_
    refine fr_icm_ne (tg := 20) (pc := 13) dX7_isSign_13 rfl hq (fun hc2 hq => ?_) (fun hc2 hq => ?_)
    · refine fr_iconst (pc := 16) dX7_isSign_16 (by decide) ?_
      refine fr_goto (tg := 21) (pc := 17) dX7_isSign_17 rfl ?_
      refine fr_iret (pc := 21) dX7_isSign_21 (Or.inr (Or.inl ⟨rfl, Or.inr rfl⟩)) ?_
      refine fr_istore_n (ls2 := [(2, 72), (0, 1), (9, 0)]) (pc := 8) dX9_readNumber_8 rfl (Nat.le_of_ble_eq_true rfl) rfl ?_
      refine fr_iload_n (pc := 9) dX9_readNumber_9 rfl rfl ?_
      refine fr_ifcF (tg := 20) (pc := 10) dX9_readNumber_10 rfl rfl ?_
      refine fr_aload_n (pc := 13) dX9_readNumber_13 rfl rfl ?_
      refine fr_getr (a := 72) (pc := 14) dX9_readNumber_14 rfl pf_9_9 s0_72 rfl rf_72_0 ?_
      refine fr_inVV (a := 70) (as := []) (rest := []) (ls' := [(2, 70), (9, 0)]) (c1 := 0) (c2 := 0) (pc := 17) dX9_readNumber_17 pl_9_37 rfl ⟨Nat.le_of_ble_eq_true rfl, Nat.le_of_ble_eq_true rfl⟩ rfl rfl rfl s0_70 (Nat.le_of_ble_eq_true rfl) (by omega) rfl rfl (pm_zc _) (hq sc _ (by omega)) (fun M3 hq => ?_)
      refine fr_aload_n (pc := 20) dX9_readNumber_20 rfl rfl ?_
      refine fr_getr (a := 72) (pc := 21) dX9_readNumber_21 rfl pf_9_9 s0_72 rfl rf_72_0 ?_
      refine fr_getf (a := 70) (i := 4) (v := gI M3 70 4) (t := 0) (pc := 24) dX9_readNumber_24 rfl pf_9_40 rfl s0_70 rfl rfl ?_
      refine fr_iconst (pc := 27) dX9_readNumber_27 (by decide) ?_
      refine fr_icm_eq (tg := 39) (pc := 28) dX9_readNumber_28 rfl hq (fun hc5 hq => ?_) (fun hc5 hq => ?_)
      · refine fr_aload_n (pc := 39) dX9_readNumber_39 rfl rfl ?_
        refine fr_getr (a := 72) (pc := 40) dX9_readNumber_40 rfl pf_9_9 s0_72 rfl rf_72_0 ?_
        refine fr_getf (a := 70) (i := 5) (v := gI M3 70 5) (t := 0) (pc := 43) dX9_readNumber_43 rfl pf_9_79 rfl s0_70 rfl rfl ?_
        refine fr_istore_n (ls2 := [(2, 72), (0, 1), (0, gI M3 70 5)]) (pc := 46) dX9_readNumber_46 rfl (Nat.le_of_ble_eq_true rfl) rfl ?_
        refine fr_aload_n (pc := 47) dX9_readNumber_47 rfl rfl ?_
        refine fr_getr (a := 72) (pc := 48) dX9_readNumber_48 rfl pf_9_9 s0_72 rfl rf_72_0 ?_
        refine fr_inVV (a := 70) (as := []) (rest := []) (ls' := [(2, 70), (9, 0)]) (c1 := 0) (c2 := 0) (pc := 51) dX9_readNumber_51 pl_9_37 rfl ⟨Nat.le_of_ble_eq_true rfl, Nat.le_of_ble_eq_true rfl⟩ rfl rfl rfl s0_70 (Nat.le_of_ble_eq_true rfl) (by omega) rfl rfl (pm_zc _) (hq sc _ (by omega)) (fun M6 hq => ?_)
        refine fr_iload_n (pc := 54) dX9_readNumber_54 rfl rfl ?_
        refine fr_ifcF (tg := 63) (pc := 55) dX9_readNumber_55 rfl rfl ?_
        refine fr_iload_n (pc := 58) dX9_readNumber_58 rfl rfl ?_
        refine fr_ineg (z := w32 (-(gI M3 70 5))) (pc := 59) dX9_readNumber_59 rfl ?_
        refine fr_goto (tg := 64) (pc := 60) dX9_readNumber_60 rfl ?_
        exact fr_iret (pc := 64) dX9_readNumber_64 (Or.inl rfl) hq
      · refine fr_aload_n (pc := 31) dX9_readNumber_31 rfl rfl ?_
        refine fr_getr (a := 72) (pc := 32) dX9_readNumber_32 rfl pf_9_9 s0_72 rfl rf_72_0 ?_
        refine fr_iconst (pc := 35) dX9_readNumber_35 (by decide) ?_
        refine fr_inVV (a := 70) (as := [(0, 1)]) (rest := []) (ls' := [(2, 70), (0, 1)]) (c1 := 0) (c2 := 0) (pc := 36) dX9_readNumber_36 pl_9_44 rfl ⟨Nat.le_of_ble_eq_true rfl, Nat.le_of_ble_eq_true rfl⟩ rfl rfl rfl s0_70 (Nat.le_of_ble_eq_true rfl) (by omega) rfl rfl (pm_zc _) ?_ (fun M' h => h)
        refine fr_aload_n (pc := 0) dX7_refuse_0 rfl rfl ?_
        refine fr_getf (a := 70) (i := 6) (v := gI M3 70 6) (t := 0) (pc := 1) dX7_refuse_1 rfl pf_7_31 rfl s0_70 rfl rfl ?_
        refine fr_ifc_ne (tg := 25) (pc := 4) dX7_refuse_4 rfl hq (fun hc8 hq => ?_) (fun hc8 hq => ?_)
        · refine fr_aload_n (pc := 7) dX7_refuse_7 rfl rfl ?_
          refine fr_bipush (pc := 8) dX7_refuse_8 (by decide) ?_
          refine fr_aload_n (pc := 10) dX7_refuse_10 rfl rfl ?_
          refine fr_getf (a := 70) (i := 3) (v := gI M3 70 3) (t := 0) (pc := 11) dX7_refuse_11 rfl pf_7_37 rfl s0_70 rfl rfl ?_
          refine fr_imul (z := w32 (8 * (gI M3 70 3))) (pc := 14) dX7_refuse_14 rfl ?_
          refine fr_iload_n (pc := 15) dX7_refuse_15 rfl rfl ?_
          refine fr_iadd (z := w32 ((w32 (8 * (gI M3 70 3))) + 1)) (pc := 16) dX7_refuse_16 rfl ?_
          refine fr_put (a := 70) (i := 6) (pc := 17) dX7_refuse_17 rfl pf_7_31 rfl s0_70 rfl rfl nf_70_6 rfl ?_
          refine fr_aload_n (pc := 20) dX7_refuse_20 rfl rfl ?_
          refine fr_iconst (pc := 21) dX7_refuse_21 (by decide) ?_
          refine fr_put (a := 70) (i := 4) (pc := 22) dX7_refuse_22 rfl pf_7_40 rfl s0_70 rfl rfl nf_70_4 rfl ?_
          refine fr_vret (pc := 25) dX7_refuse_25 rfl ?_
          refine fr_aload_n (pc := 39) dX9_readNumber_39 rfl rfl ?_
          refine fr_getr (a := 72) (pc := 40) dX9_readNumber_40 rfl pf_9_9 s0_72 rfl rf_72_0 ?_
          refine fr_getf (a := 70) (i := 5) (v := gI M3 70 5) (t := 0) (pc := 43) dX9_readNumber_43 rfl pf_9_79 rfl s0_70 rfl ((gI_nf _ _ (by decide)).trans (gI_nf _ _ (by decide))) ?_
          refine fr_istore_n (ls2 := [(2, 72), (0, 1), (0, gI M3 70 5)]) (pc := 46) dX9_readNumber_46 rfl (Nat.le_of_ble_eq_true rfl) rfl ?_
          refine fr_aload_n (pc := 47) dX9_readNumber_47 rfl rfl ?_
          refine fr_getr (a := 72) (pc := 48) dX9_readNumber_48 rfl pf_9_9 s0_72 rfl rf_72_0 ?_
          refine fr_inVV (a := 70) (as := []) (rest := []) (ls' := [(2, 70), (9, 0)]) (c1 := 0) (c2 := 0) (pc := 51) dX9_readNumber_51 pl_9_37 rfl ⟨Nat.le_of_ble_eq_true rfl, Nat.le_of_ble_eq_true rfl⟩ rfl rfl rfl s0_70 (Nat.le_of_ble_eq_true rfl) (by omega) rfl rfl (pm_zc _) (hq sc _ (by omega)) (fun M9 hq => ?_)
          refine fr_iload_n (pc := 54) dX9_readNumber_54 rfl rfl ?_
          refine fr_ifcF (tg := 63) (pc := 55) dX9_readNumber_55 rfl rfl ?_
          refine fr_iload_n (pc := 58) dX9_readNumber_58 rfl rfl ?_
          refine fr_ineg (z := w32 (-(gI M3 70 5))) (pc := 59) dX9_readNumber_59 rfl ?_
          refine fr_goto (tg := 64) (pc := 60) dX9_readNumber_60 rfl ?_
          exact fr_iret (pc := 64) dX9_readNumber_64 (Or.inl rfl) hq
        · refine fr_vret (pc := 25) dX7_refuse_25 rfl ?_
          refine fr_aload_n (pc := 39) dX9_readNumber_39 rfl rfl ?_
          refine fr_getr (a := 72) (pc := 40) dX9_readNumber_40 rfl pf_9_9 s0_72 rfl rf_72_0 ?_
          refine fr_getf (a := 70) (i := 5) (v := gI M3 70 5) (t := 0) (pc := 43) dX9_readNumber_43 rfl pf_9_79 rfl s0_70 rfl rfl ?_
          refine fr_istore_n (ls2 := [(2, 72), (0, 1), (0, gI M3 70 5)]) (pc := 46) dX9_readNumber_46 rfl (Nat.le_of_ble_eq_true rfl) rfl ?_
          refine fr_aload_n (pc := 47) dX9_readNumber_47 rfl rfl ?_
          refine fr_getr (a := 72) (pc := 48) dX9_readNumber_48 rfl pf_9_9 s0_72 rfl rf_72_0 ?_
          refine fr_inVV (a := 70) (as := []) (rest := []) (ls' := [(2, 70), (9, 0)]) (c1 := 0) (c2 := 0) (pc := 51) dX9_readNumber_51 pl_9_37 rfl ⟨Nat.le_of_ble_eq_true rfl, Nat.le_of_ble_eq_true rfl⟩ rfl rfl rfl s0_70 (Nat.le_of_ble_eq_true rfl) (by omega) rfl rfl (pm_zc _) (hq sc _ (by omega)) (fun M11 hq => ?_)
          refine fr_iload_n (pc := 54) dX9_readNumber_54 rfl rfl ?_
          refine fr_ifcF (tg := 63) (pc := 55) dX9_readNumber_55 rfl rfl ?_
          refine fr_iload_n (pc := 58) dX9_readNumber_58 rfl rfl ?_
          refine fr_ineg (z := w32 (-(gI M3 70 5))) (pc := 59) dX9_readNumber_59 rfl ?_
          refine fr_goto (tg := 64) (pc := 60) dX9_readNumber_60 rfl ?_
          exact fr_iret (pc := 64) dX9_readNumber_64 (Or.inl rfl) hq
    · refine fr_iconst (pc := 20) dX7_isSign_20 (by decide) ?_
      refine fr_iret (pc := 21) dX7_isSign_21 (Or.inr (Or.inl ⟨rfl, Or.inl rfl⟩)) ?_
      refine fr_istore_n (ls2 := [(2, 72), (0, 0), (9, 0)]) (pc := 8) dX9_readNumber_8 rfl (Nat.le_of_ble_eq_true rfl) rfl ?_
      refine fr_iload_n (pc := 9) dX9_readNumber_9 rfl rfl ?_
      refine fr_ifcT (tg := 20) (pc := 10) dX9_readNumber_10 rfl rfl ?_
      refine fr_aload_n (pc := 20) dX9_readNumber_20 rfl rfl ?_
      refine fr_getr (a := 72) (pc := 21) dX9_readNumber_21 rfl pf_9_9 s0_72 rfl rf_72_0 ?_
      refine fr_getf (a := 70) (i := 4) (v := gI M 70 4) (t := 0) (pc := 24) dX9_readNumber_24 rfl pf_9_40 rfl s0_70 rfl rfl ?_
      refine fr_iconst (pc := 27) dX9_readNumber_27 (by decide) ?_
      refine fr_icm_eq (tg := 39) (pc := 28) dX9_readNumber_28 rfl hq (fun hc13 hq => ?_) (fun hc13 hq => ?_)
      · refine fr_aload_n (pc := 39) dX9_readNumber_39 rfl rfl ?_
        refine fr_getr (a := 72) (pc := 40) dX9_readNumber_40 rfl pf_9_9 s0_72 rfl rf_72_0 ?_
        refine fr_getf (a := 70) (i := 5) (v := gI M 70 5) (t := 0) (pc := 43) dX9_readNumber_43 rfl pf_9_79 rfl s0_70 rfl rfl ?_
        refine fr_istore_n (ls2 := [(2, 72), (0, 0), (0, gI M 70 5)]) (pc := 46) dX9_readNumber_46 rfl (Nat.le_of_ble_eq_true rfl) rfl ?_
        refine fr_aload_n (pc := 47) dX9_readNumber_47 rfl rfl ?_
        refine fr_getr (a := 72) (pc := 48) dX9_readNumber_48 rfl pf_9_9 s0_72 rfl rf_72_0 ?_
        refine fr_inVV (a := 70) (as := []) (rest := []) (ls' := [(2, 70), (9, 0)]) (c1 := 0) (c2 := 0) (pc := 51) dX9_readNumber_51 pl_9_37 rfl ⟨Nat.le_of_ble_eq_true rfl, Nat.le_of_ble_eq_true rfl⟩ rfl rfl rfl s0_70 (Nat.le_of_ble_eq_true rfl) (by omega) rfl rfl (pm_zc _) (hq sc _ (by omega)) (fun M14 hq => ?_)
        refine fr_iload_n (pc := 54) dX9_readNumber_54 rfl rfl ?_
        refine fr_ifcT (tg := 63) (pc := 55) dX9_readNumber_55 rfl rfl ?_
        refine fr_iload_n (pc := 63) dX9_readNumber_63 rfl rfl ?_
        exact fr_iret (pc := 64) dX9_readNumber_64 (Or.inl rfl) hq
      · refine fr_aload_n (pc := 31) dX9_readNumber_31 rfl rfl ?_
        refine fr_getr (a := 72) (pc := 32) dX9_readNumber_32 rfl pf_9_9 s0_72 rfl rf_72_0 ?_
        refine fr_iconst (pc := 35) dX9_readNumber_35 (by decide) ?_
        refine fr_inVV (a := 70) (as := [(0, 1)]) (rest := []) (ls' := [(2, 70), (0, 1)]) (c1 := 0) (c2 := 0) (pc := 36) dX9_readNumber_36 pl_9_44 rfl ⟨Nat.le_of_ble_eq_true rfl, Nat.le_of_ble_eq_true rfl⟩ rfl rfl rfl s0_70 (Nat.le_of_ble_eq_true rfl) (by omega) rfl rfl (pm_zc _) ?_ (fun M' h => h)
        refine fr_aload_n (pc := 0) dX7_refuse_0 rfl rfl ?_
        refine fr_getf (a := 70) (i := 6) (v := gI M 70 6) (t := 0) (pc := 1) dX7_refuse_1 rfl pf_7_31 rfl s0_70 rfl rfl ?_
        refine fr_ifc_ne (tg := 25) (pc := 4) dX7_refuse_4 rfl hq (fun hc16 hq => ?_) (fun hc16 hq => ?_)
        · refine fr_aload_n (pc := 7) dX7_refuse_7 rfl rfl ?_
          refine fr_bipush (pc := 8) dX7_refuse_8 (by decide) ?_
          refine fr_aload_n (pc := 10) dX7_refuse_10 rfl rfl ?_
          refine fr_getf (a := 70) (i := 3) (v := gI M 70 3) (t := 0) (pc := 11) dX7_refuse_11 rfl pf_7_37 rfl s0_70 rfl rfl ?_
          refine fr_imul (z := w32 (8 * (gI M 70 3))) (pc := 14) dX7_refuse_14 rfl ?_
          refine fr_iload_n (pc := 15) dX7_refuse_15 rfl rfl ?_
          refine fr_iadd (z := w32 ((w32 (8 * (gI M 70 3))) + 1)) (pc := 16) dX7_refuse_16 rfl ?_
          refine fr_put (a := 70) (i := 6) (pc := 17) dX7_refuse_17 rfl pf_7_31 rfl s0_70 rfl rfl nf_70_6 rfl ?_
          refine fr_aload_n (pc := 20) dX7_refuse_20 rfl rfl ?_
          refine fr_iconst (pc := 21) dX7_refuse_21 (by decide) ?_
          refine fr_put (a := 70) (i := 4) (pc := 22) dX7_refuse_22 rfl pf_7_40 rfl s0_70 rfl rfl nf_70_4 rfl ?_
          refine fr_vret (pc := 25) dX7_refuse_25 rfl ?_
          refine fr_aload_n (pc := 39) dX9_readNumber_39 rfl rfl ?_
          refine fr_getr (a := 72) (pc := 40) dX9_readNumber_40 rfl pf_9_9 s0_72 rfl rf_72_0 ?_
          refine fr_getf (a := 70) (i := 5) (v := gI M 70 5) (t := 0) (pc := 43) dX9_readNumber_43 rfl pf_9_79 rfl s0_70 rfl ((gI_nf _ _ (by decide)).trans (gI_nf _ _ (by decide))) ?_
          refine fr_istore_n (ls2 := [(2, 72), (0, 0), (0, gI M 70 5)]) (pc := 46) dX9_readNumber_46 rfl (Nat.le_of_ble_eq_true rfl) rfl ?_
          refine fr_aload_n (pc := 47) dX9_readNumber_47 rfl rfl ?_
          refine fr_getr (a := 72) (pc := 48) dX9_readNumber_48 rfl pf_9_9 s0_72 rfl rf_72_0 ?_
          refine fr_inVV (a := 70) (as := []) (rest := []) (ls' := [(2, 70), (9, 0)]) (c1 := 0) (c2 := 0) (pc := 51) dX9_readNumber_51 pl_9_37 rfl ⟨Nat.le_of_ble_eq_true rfl, Nat.le_of_ble_eq_true rfl⟩ rfl rfl rfl s0_70 (Nat.le_of_ble_eq_true rfl) (by omega) rfl rfl (pm_zc _) (hq sc _ (by omega)) (fun M17 hq => ?_)
          refine fr_iload_n (pc := 54) dX9_readNumber_54 rfl rfl ?_
          refine fr_ifcT (tg := 63) (pc := 55) dX9_readNumber_55 rfl rfl ?_
          refine fr_iload_n (pc := 63) dX9_readNumber_63 rfl rfl ?_
          exact fr_iret (pc := 64) dX9_readNumber_64 (Or.inl rfl) hq
        · refine fr_vret (pc := 25) dX7_refuse_25 rfl ?_
          refine fr_aload_n (pc := 39) dX9_readNumber_39 rfl rfl ?_
          refine fr_getr (a := 72) (pc := 40) dX9_readNumber_40 rfl pf_9_9 s0_72 rfl rf_72_0 ?_
          refine fr_getf (a := 70) (i := 5) (v := gI M 70 5) (t := 0) (pc := 43) dX9_readNumber_43 rfl pf_9_79 rfl s0_70 rfl rfl ?_
          refine fr_istore_n (ls2 := [(2, 72), (0, 0), (0, gI M 70 5)]) (pc := 46) dX9_readNumber_46 rfl (Nat.le_of_ble_eq_true rfl) rfl ?_
          refine fr_aload_n (pc := 47) dX9_readNumber_47 rfl rfl ?_
          refine fr_getr (a := 72) (pc := 48) dX9_readNumber_48 rfl pf_9_9 s0_72 rfl rf_72_0 ?_
          refine fr_inVV (a := 70) (as := []) (rest := []) (ls' := [(2, 70), (9, 0)]) (c1 := 0) (c2 := 0) (pc := 51) dX9_readNumber_51 pl_9_37 rfl ⟨Nat.le_of_ble_eq_true rfl, Nat.le_of_ble_eq_true rfl⟩ rfl rfl rfl s0_70 (Nat.le_of_ble_eq_true rfl) (by omega) rfl rfl (pm_zc _) (hq sc _ (by omega)) (fun M19 hq => ?_)
          refine fr_iload_n (pc := 54) dX9_readNumber_54 rfl rfl ?_
          refine fr_ifcT (tg := 63) (pc := 55) dX9_readNumber_55 rfl rfl ?_
          refine fr_iload_n (pc := 63) dX9_readNumber_63 rfl rfl ?_
          exact fr_iret (pc := 64) dX9_readNumber_64 (Or.inl rfl) hq
  · refine fr_iconst (pc := 20) dX7_isSign_20 (by decide) ?_
    refine fr_iret (pc := 21) dX7_isSign_21 (Or.inr (Or.inl ⟨rfl, Or.inl rfl⟩)) ?_
    refine fr_istore_n (ls2 := [(2, 72), (0, 0), (9, 0)]) (pc := 8) dX9_readNumber_8 rfl (Nat.le_of_ble_eq_true rfl) rfl ?_
    refine fr_iload_n (pc := 9) dX9_readNumber_9 rfl rfl ?_
    refine fr_ifcT (tg := 20) (pc := 10) dX9_readNumber_10 rfl rfl ?_
    refine fr_aload_n (pc := 20) dX9_readNumber_20 rfl rfl ?_
    refine fr_getr (a := 72) (pc := 21) dX9_readNumber_21 rfl pf_9_9 s0_72 rfl rf_72_0 ?_
    refine fr_getf (a := 70) (i := 4) (v := gI M 70 4) (t := 0) (pc := 24) dX9_readNumber_24 rfl pf_9_40 rfl s0_70 rfl rfl ?_
    refine fr_iconst (pc := 27) dX9_readNumber_27 (by decide) ?_
    refine fr_icm_eq (tg := 39) (pc := 28) dX9_readNumber_28 rfl hq (fun hc21 hq => ?_) (fun hc21 hq => ?_)
    · refine fr_aload_n (pc := 39) dX9_readNumber_39 rfl rfl ?_
      refine fr_getr (a := 72) (pc := 40) dX9_readNumber_40 rfl pf_9_9 s0_72 rfl rf_72_0 ?_
      refine fr_getf (a := 70) (i := 5) (v := gI M 70 5) (t := 0) (pc := 43) dX9_readNumber_43 rfl pf_9_79 rfl s0_70 rfl rfl ?_
      refine fr_istore_n (ls2 := [(2, 72), (0, 0), (0, gI M 70 5)]) (pc := 46) dX9_readNumber_46 rfl (Nat.le_of_ble_eq_true rfl) rfl ?_
      refine fr_aload_n (pc := 47) dX9_readNumber_47 rfl rfl ?_
      refine fr_getr (a := 72) (pc := 48) dX9_readNumber_48 rfl pf_9_9 s0_72 rfl rf_72_0 ?_
      refine fr_inVV (a := 70) (as := []) (rest := []) (ls' := [(2, 70), (9, 0)]) (c1 := 0) (c2 := 0) (pc := 51) dX9_readNumber_51 pl_9_37 rfl ⟨Nat.le_of_ble_eq_true rfl, Nat.le_of_ble_eq_true rfl⟩ rfl rfl rfl s0_70 (Nat.le_of_ble_eq_true rfl) (by omega) rfl rfl (pm_zc _) (hq sc _ (by omega)) (fun M22 hq => ?_)
      refine fr_iload_n (pc := 54) dX9_readNumber_54 rfl rfl ?_
      refine fr_ifcT (tg := 63) (pc := 55) dX9_readNumber_55 rfl rfl ?_
      refine fr_iload_n (pc := 63) dX9_readNumber_63 rfl rfl ?_
      exact fr_iret (pc := 64) dX9_readNumber_64 (Or.inl rfl) hq
    · refine fr_aload_n (pc := 31) dX9_readNumber_31 rfl rfl ?_
      refine fr_getr (a := 72) (pc := 32) dX9_readNumber_32 rfl pf_9_9 s0_72 rfl rf_72_0 ?_
      refine fr_iconst (pc := 35) dX9_readNumber_35 (by decide) ?_
      refine fr_inVV (a := 70) (as := [(0, 1)]) (rest := []) (ls' := [(2, 70), (0, 1)]) (c1 := 0) (c2 := 0) (pc := 36) dX9_readNumber_36 pl_9_44 rfl ⟨Nat.le_of_ble_eq_true rfl, Nat.le_of_ble_eq_true rfl⟩ rfl rfl rfl s0_70 (Nat.le_of_ble_eq_true rfl) (by omega) rfl rfl (pm_zc _) ?_ (fun M' h => h)
      refine fr_aload_n (pc := 0) dX7_refuse_0 rfl rfl ?_
      refine fr_getf (a := 70) (i := 6) (v := gI M 70 6) (t := 0) (pc := 1) dX7_refuse_1 rfl pf_7_31 rfl s0_70 rfl rfl ?_
      refine fr_ifc_ne (tg := 25) (pc := 4) dX7_refuse_4 rfl hq (fun hc24 hq => ?_) (fun hc24 hq => ?_)
      · refine fr_aload_n (pc := 7) dX7_refuse_7 rfl rfl ?_
        refine fr_bipush (pc := 8) dX7_refuse_8 (by decide) ?_
        refine fr_aload_n (pc := 10) dX7_refuse_10 rfl rfl ?_
        refine fr_getf (a := 70) (i := 3) (v := gI M 70 3) (t := 0) (pc := 11) dX7_refuse_11 rfl pf_7_37 rfl s0_70 rfl rfl ?_
        refine fr_imul (z := w32 (8 * (gI M 70 3))) (pc := 14) dX7_refuse_14 rfl ?_
        refine fr_iload_n (pc := 15) dX7_refuse_15 rfl rfl ?_
        refine fr_iadd (z := w32 ((w32 (8 * (gI M 70 3))) + 1)) (pc := 16) dX7_refuse_16 rfl ?_
        refine fr_put (a := 70) (i := 6) (pc := 17) dX7_refuse_17 rfl pf_7_31 rfl s0_70 rfl rfl nf_70_6 rfl ?_
        refine fr_aload_n (pc := 20) dX7_refuse_20 rfl rfl ?_
        refine fr_iconst (pc := 21) dX7_refuse_21 (by decide) ?_
        refine fr_put (a := 70) (i := 4) (pc := 22) dX7_refuse_22 rfl pf_7_40 rfl s0_70 rfl rfl nf_70_4 rfl ?_
        refine fr_vret (pc := 25) dX7_refuse_25 rfl ?_
        refine fr_aload_n (pc := 39) dX9_readNumber_39 rfl rfl ?_
        refine fr_getr (a := 72) (pc := 40) dX9_readNumber_40 rfl pf_9_9 s0_72 rfl rf_72_0 ?_
        refine fr_getf (a := 70) (i := 5) (v := gI M 70 5) (t := 0) (pc := 43) dX9_readNumber_43 rfl pf_9_79 rfl s0_70 rfl ((gI_nf _ _ (by decide)).trans (gI_nf _ _ (by decide))) ?_
        refine fr_istore_n (ls2 := [(2, 72), (0, 0), (0, gI M 70 5)]) (pc := 46) dX9_readNumber_46 rfl (Nat.le_of_ble_eq_true rfl) rfl ?_
        refine fr_aload_n (pc := 47) dX9_readNumber_47 rfl rfl ?_
        refine fr_getr (a := 72) (pc := 48) dX9_readNumber_48 rfl pf_9_9 s0_72 rfl rf_72_0 ?_
        refine fr_inVV (a := 70) (as := []) (rest := []) (ls' := [(2, 70), (9, 0)]) (c1 := 0) (c2 := 0) (pc := 51) dX9_readNumber_51 pl_9_37 rfl ⟨Nat.le_of_ble_eq_true rfl, Nat.le_of_ble_eq_true rfl⟩ rfl rfl rfl s0_70 (Nat.le_of_ble_eq_true rfl) (by omega) rfl rfl (pm_zc _) (hq sc _ (by omega)) (fun M25 hq => ?_)
        refine fr_iload_n (pc := 54) dX9_readNumber_54 rfl rfl ?_
        refine fr_ifcT (tg := 63) (pc := 55) dX9_readNumber_55 rfl rfl ?_
        refine fr_iload_n (pc := 63) dX9_readNumber_63 rfl rfl ?_
        exact fr_iret (pc := 64) dX9_readNumber_64 (Or.inl rfl) hq
      · refine fr_vret (pc := 25) dX7_refuse_25 rfl ?_
        refine fr_aload_n (pc := 39) dX9_readNumber_39 rfl rfl ?_
        refine fr_getr (a := 72) (pc := 40) dX9_readNumber_40 rfl pf_9_9 s0_72 rfl rf_72_0 ?_
        refine fr_getf (a := 70) (i := 5) (v := gI M 70 5) (t := 0) (pc := 43) dX9_readNumber_43 rfl pf_9_79 rfl s0_70 rfl rfl ?_
        refine fr_istore_n (ls2 := [(2, 72), (0, 0), (0, gI M 70 5)]) (pc := 46) dX9_readNumber_46 rfl (Nat.le_of_ble_eq_true rfl) rfl ?_
        refine fr_aload_n (pc := 47) dX9_readNumber_47 rfl rfl ?_
        refine fr_getr (a := 72) (pc := 48) dX9_readNumber_48 rfl pf_9_9 s0_72 rfl rf_72_0 ?_
        refine fr_inVV (a := 70) (as := []) (rest := []) (ls' := [(2, 70), (9, 0)]) (c1 := 0) (c2 := 0) (pc := 51) dX9_readNumber_51 pl_9_37 rfl ⟨Nat.le_of_ble_eq_true rfl, Nat.le_of_ble_eq_true rfl⟩ rfl rfl rfl s0_70 (Nat.le_of_ble_eq_true rfl) (by omega) rfl rfl (pm_zc _) (hq sc _ (by omega)) (fun M27 hq => ?_)
        refine fr_iload_n (pc := 54) dX9_readNumber_54 rfl rfl ?_
        refine fr_ifcT (tg := 63) (pc := 55) dX9_readNumber_55 rfl rfl ?_
        refine fr_iload_n (pc := 63) dX9_readNumber_63 rfl rfl ?_
        exact fr_iret (pc := 64) dX9_readNumber_64 (Or.inl rfl) hq
theorem k8_add_r {o : Nat} {a1 a2 a3 a4 a5 : Int} {M : pm_M} {K : pm_M → Prop} (ho : o = 18 ∨ o = 52) (hq : (if gI M o 1 < 16 then ((0 ≤ gI M o 1 ∧ gI M o 1 < 16) ∧ (if a5 = 0 then K (upI (upI (upI (upI (upI (upI (upI M (o + 2 + (gI M o 1).toNat) 0 a1) (o + 2 + (gI M o 1).toNat) 1 a2) (o + 2 + (gI M o 1).toNat) 2 a3) (o + 2 + (gI M o 1).toNat) 3 a4) (o + 2 + (gI M o 1).toNat) 4 0) o 2 (w32 ((gI M o 2) + 0))) o 1 (w32 ((gI M o 1) + 1))) else K (upI (upI (upI (upI (upI (upI (upI M (o + 2 + (gI M o 1).toNat) 0 a1) (o + 2 + (gI M o 1).toNat) 1 a2) (o + 2 + (gI M o 1).toNat) 2 a3) (o + 2 + (gI M o 1).toNat) 3 a4) (o + 2 + (gI M o 1).toNat) 4 1) o 2 (w32 ((gI M o 2) + 1))) o 1 (w32 ((gI M o 1) + 1))))) else K M)) : k8_add o a1 a2 a3 a4 a5 M K := by
  intro sc d hd
  rcases ho with rfl | rfl
  · refine fr_aload_n (pc := 0) dX8_add_0 rfl rfl ?_
    refine fr_getf (a := 18) (i := 1) (v := gI M 18 1) (t := 0) (pc := 1) dX8_add_1 rfl pf_8_16 rfl s0_18 rfl rfl ?_
    refine fr_bipush (pc := 4) dX8_add_4 (by decide) ?_
    refine fr_icm_ge (tg := 78) (pc := 6) dX8_add_6 rfl hq (fun hc1 hq => ?_) (fun hc1 hq => ?_)
    · refine fr_aload_n (pc := 9) dX8_add_9 rfl rfl ?_
      refine fr_getr (a := 18) (pc := 10) dX8_add_10 rfl pf_8_13 s0_18 rfl rf_18_0 ?_
      refine fr_aload_n (pc := 13) dX8_add_13 rfl rfl ?_
      refine fr_getf (a := 18) (i := 1) (v := gI M 18 1) (t := 0) (pc := 14) dX8_add_14 rfl pf_8_16 rfl s0_18 rfl rfl ?_
      obtain ⟨hb2, hq⟩ := hq
      refine fr_aaload (a := 19) (pc := 17) dX8_add_17 rfl s0_19 hb2 rws_19 ?_
      refine fr_astore (ls2 := [(2, 18), (0, a1), (0, a2), (0, a3), (0, a4), (0, a5), (2, ((19 + 1 + (gI M 18 1).toNat : Nat) : Int))]) (pc := 18) dX8_add_18 (pm_isA_nat _) (Nat.le_of_ble_eq_true rfl) rfl ?_
      refine fr_aload (pc := 20) dX8_add_20 rfl (pm_isA_nat _) ?_
      refine fr_iconst (pc := 22) dX8_add_22 (by decide) ?_
      refine fr_iload_n (pc := 23) dX8_add_23 rfl rfl ?_
      refine fr_iastore (a := (19 + 1 + (gI M 18 1).toNat)) (pc := 24) dX8_add_24 rfl (pm_rowS rwS_19 hb2) (by decide) (pm_rowN rwN_19 hb2) ?_
      refine fr_aload (pc := 25) dX8_add_25 rfl (pm_isA_nat _) ?_
      refine fr_iconst (pc := 27) dX8_add_27 (by decide) ?_
      refine fr_iload_n (pc := 28) dX8_add_28 rfl rfl ?_
      refine fr_iastore (a := (19 + 1 + (gI M 18 1).toNat)) (pc := 29) dX8_add_29 rfl (pm_rowS rwS_19 hb2) (by decide) (pm_rowN rwN_19 hb2) ?_
      refine fr_aload (pc := 30) dX8_add_30 rfl (pm_isA_nat _) ?_
      refine fr_iconst (pc := 32) dX8_add_32 (by decide) ?_
      refine fr_iload_n (pc := 33) dX8_add_33 rfl rfl ?_
      refine fr_iastore (a := (19 + 1 + (gI M 18 1).toNat)) (pc := 34) dX8_add_34 rfl (pm_rowS rwS_19 hb2) (by decide) (pm_rowN rwN_19 hb2) ?_
      refine fr_aload (pc := 35) dX8_add_35 rfl (pm_isA_nat _) ?_
      refine fr_iconst (pc := 37) dX8_add_37 (by decide) ?_
      refine fr_iload (pc := 38) dX8_add_38 rfl rfl ?_
      refine fr_iastore (a := (19 + 1 + (gI M 18 1).toNat)) (pc := 40) dX8_add_40 rfl (pm_rowS rwS_19 hb2) (by decide) (pm_rowN rwN_19 hb2) ?_
      refine fr_aload (pc := 41) dX8_add_41 rfl (pm_isA_nat _) ?_
      refine fr_iconst (pc := 43) dX8_add_43 (by decide) ?_
      refine fr_iload (pc := 44) dX8_add_44 rfl rfl ?_
      refine fr_ifc_eq (tg := 53) (pc := 46) dX8_add_46 rfl hq (fun hc3 hq => ?_) (fun hc3 hq => ?_)
      · refine fr_iconst (pc := 53) dX8_add_53 (by decide) ?_
        refine fr_iastore (a := (19 + 1 + (gI M 18 1).toNat)) (pc := 54) dX8_add_54 rfl (pm_rowS rwS_19 hb2) (by decide) (pm_rowN rwN_19 hb2) ?_
        refine fr_aload_n (pc := 55) dX8_add_55 rfl rfl ?_
        refine fr_dup (pc := 56) dX8_add_56 pm_t2 ?_
        refine fr_getf (a := 18) (i := 2) (v := gI M 18 2) (t := 0) (pc := 57) dX8_add_57 rfl pf_8_20 rfl s0_18 rfl ((gI_ne _ _ _ _ (by omega)).trans ((gI_ne _ _ _ _ (by omega)).trans ((gI_ne _ _ _ _ (by omega)).trans ((gI_ne _ _ _ _ (by omega)).trans (gI_ne _ _ _ _ (by omega)))))) ?_
        refine fr_aload (pc := 60) dX8_add_60 rfl (pm_isA_nat _) ?_
        refine fr_iconst (pc := 62) dX8_add_62 (by decide) ?_
        refine fr_iaload (a := (19 + 1 + (gI M 18 1).toNat)) (v := 0) (pc := 63) dX8_add_63 rfl (pm_rowS rwS_19 hb2) (by decide) (gI_eq _ _ _ _) ?_
        refine fr_iadd (z := w32 ((gI M 18 2) + 0)) (pc := 64) dX8_add_64 rfl ?_
        refine fr_put (a := 18) (i := 2) (pc := 65) dX8_add_65 rfl pf_8_20 rfl s0_18 rfl rfl nf_18_2 rfl ?_
        refine fr_aload_n (pc := 68) dX8_add_68 rfl rfl ?_
        refine fr_dup (pc := 69) dX8_add_69 pm_t2 ?_
        refine fr_getf (a := 18) (i := 1) (v := gI M 18 1) (t := 0) (pc := 70) dX8_add_70 rfl pf_8_16 rfl s0_18 rfl ((gI_nf _ _ (by decide)).trans ((gI_ne _ _ _ _ (by omega)).trans ((gI_ne _ _ _ _ (by omega)).trans ((gI_ne _ _ _ _ (by omega)).trans ((gI_ne _ _ _ _ (by omega)).trans (gI_ne _ _ _ _ (by omega))))))) ?_
        refine fr_iconst (pc := 73) dX8_add_73 (by decide) ?_
        refine fr_iadd (z := w32 ((gI M 18 1) + 1)) (pc := 74) dX8_add_74 rfl ?_
        refine fr_put (a := 18) (i := 1) (pc := 75) dX8_add_75 rfl pf_8_16 rfl s0_18 rfl rfl nf_18_1 rfl ?_
        exact fr_vret (pc := 78) dX8_add_78 rfl hq
      · refine fr_iconst (pc := 49) dX8_add_49 (by decide) ?_
        refine fr_goto (tg := 54) (pc := 50) dX8_add_50 rfl ?_
        refine fr_iastore (a := (19 + 1 + (gI M 18 1).toNat)) (pc := 54) dX8_add_54 rfl (pm_rowS rwS_19 hb2) (by decide) (pm_rowN rwN_19 hb2) ?_
        refine fr_aload_n (pc := 55) dX8_add_55 rfl rfl ?_
        refine fr_dup (pc := 56) dX8_add_56 pm_t2 ?_
        refine fr_getf (a := 18) (i := 2) (v := gI M 18 2) (t := 0) (pc := 57) dX8_add_57 rfl pf_8_20 rfl s0_18 rfl ((gI_ne _ _ _ _ (by omega)).trans ((gI_ne _ _ _ _ (by omega)).trans ((gI_ne _ _ _ _ (by omega)).trans ((gI_ne _ _ _ _ (by omega)).trans (gI_ne _ _ _ _ (by omega)))))) ?_
        refine fr_aload (pc := 60) dX8_add_60 rfl (pm_isA_nat _) ?_
        refine fr_iconst (pc := 62) dX8_add_62 (by decide) ?_
        refine fr_iaload (a := (19 + 1 + (gI M 18 1).toNat)) (v := 1) (pc := 63) dX8_add_63 rfl (pm_rowS rwS_19 hb2) (by decide) (gI_eq _ _ _ _) ?_
        refine fr_iadd (z := w32 ((gI M 18 2) + 1)) (pc := 64) dX8_add_64 rfl ?_
        refine fr_put (a := 18) (i := 2) (pc := 65) dX8_add_65 rfl pf_8_20 rfl s0_18 rfl rfl nf_18_2 rfl ?_
        refine fr_aload_n (pc := 68) dX8_add_68 rfl rfl ?_
        refine fr_dup (pc := 69) dX8_add_69 pm_t2 ?_
        refine fr_getf (a := 18) (i := 1) (v := gI M 18 1) (t := 0) (pc := 70) dX8_add_70 rfl pf_8_16 rfl s0_18 rfl ((gI_nf _ _ (by decide)).trans ((gI_ne _ _ _ _ (by omega)).trans ((gI_ne _ _ _ _ (by omega)).trans ((gI_ne _ _ _ _ (by omega)).trans ((gI_ne _ _ _ _ (by omega)).trans (gI_ne _ _ _ _ (by omega))))))) ?_
        refine fr_iconst (pc := 73) dX8_add_73 (by decide) ?_
        refine fr_iadd (z := w32 ((gI M 18 1) + 1)) (pc := 74) dX8_add_74 rfl ?_
        refine fr_put (a := 18) (i := 1) (pc := 75) dX8_add_75 rfl pf_8_16 rfl s0_18 rfl rfl nf_18_1 rfl ?_
        exact fr_vret (pc := 78) dX8_add_78 rfl hq
    · exact fr_vret (pc := 78) dX8_add_78 rfl hq
  · refine fr_aload_n (pc := 0) dX8_add_0 rfl rfl ?_
    refine fr_getf (a := 52) (i := 1) (v := gI M 52 1) (t := 0) (pc := 1) dX8_add_1 rfl pf_8_16 rfl s0_52 rfl rfl ?_
    refine fr_bipush (pc := 4) dX8_add_4 (by decide) ?_
    refine fr_icm_ge (tg := 78) (pc := 6) dX8_add_6 rfl hq (fun hc1 hq => ?_) (fun hc1 hq => ?_)
    · refine fr_aload_n (pc := 9) dX8_add_9 rfl rfl ?_
      refine fr_getr (a := 52) (pc := 10) dX8_add_10 rfl pf_8_13 s0_52 rfl rf_52_0 ?_
      refine fr_aload_n (pc := 13) dX8_add_13 rfl rfl ?_
      refine fr_getf (a := 52) (i := 1) (v := gI M 52 1) (t := 0) (pc := 14) dX8_add_14 rfl pf_8_16 rfl s0_52 rfl rfl ?_
      obtain ⟨hb2, hq⟩ := hq
      refine fr_aaload (a := 53) (pc := 17) dX8_add_17 rfl s0_53 hb2 rws_53 ?_
      refine fr_astore (ls2 := [(2, 52), (0, a1), (0, a2), (0, a3), (0, a4), (0, a5), (2, ((53 + 1 + (gI M 52 1).toNat : Nat) : Int))]) (pc := 18) dX8_add_18 (pm_isA_nat _) (Nat.le_of_ble_eq_true rfl) rfl ?_
      refine fr_aload (pc := 20) dX8_add_20 rfl (pm_isA_nat _) ?_
      refine fr_iconst (pc := 22) dX8_add_22 (by decide) ?_
      refine fr_iload_n (pc := 23) dX8_add_23 rfl rfl ?_
      refine fr_iastore (a := (53 + 1 + (gI M 52 1).toNat)) (pc := 24) dX8_add_24 rfl (pm_rowS rwS_53 hb2) (by decide) (pm_rowN rwN_53 hb2) ?_
      refine fr_aload (pc := 25) dX8_add_25 rfl (pm_isA_nat _) ?_
      refine fr_iconst (pc := 27) dX8_add_27 (by decide) ?_
      refine fr_iload_n (pc := 28) dX8_add_28 rfl rfl ?_
      refine fr_iastore (a := (53 + 1 + (gI M 52 1).toNat)) (pc := 29) dX8_add_29 rfl (pm_rowS rwS_53 hb2) (by decide) (pm_rowN rwN_53 hb2) ?_
      refine fr_aload (pc := 30) dX8_add_30 rfl (pm_isA_nat _) ?_
      refine fr_iconst (pc := 32) dX8_add_32 (by decide) ?_
      refine fr_iload_n (pc := 33) dX8_add_33 rfl rfl ?_
      refine fr_iastore (a := (53 + 1 + (gI M 52 1).toNat)) (pc := 34) dX8_add_34 rfl (pm_rowS rwS_53 hb2) (by decide) (pm_rowN rwN_53 hb2) ?_
      refine fr_aload (pc := 35) dX8_add_35 rfl (pm_isA_nat _) ?_
      refine fr_iconst (pc := 37) dX8_add_37 (by decide) ?_
      refine fr_iload (pc := 38) dX8_add_38 rfl rfl ?_
      refine fr_iastore (a := (53 + 1 + (gI M 52 1).toNat)) (pc := 40) dX8_add_40 rfl (pm_rowS rwS_53 hb2) (by decide) (pm_rowN rwN_53 hb2) ?_
      refine fr_aload (pc := 41) dX8_add_41 rfl (pm_isA_nat _) ?_
      refine fr_iconst (pc := 43) dX8_add_43 (by decide) ?_
      refine fr_iload (pc := 44) dX8_add_44 rfl rfl ?_
      refine fr_ifc_eq (tg := 53) (pc := 46) dX8_add_46 rfl hq (fun hc3 hq => ?_) (fun hc3 hq => ?_)
      · refine fr_iconst (pc := 53) dX8_add_53 (by decide) ?_
        refine fr_iastore (a := (53 + 1 + (gI M 52 1).toNat)) (pc := 54) dX8_add_54 rfl (pm_rowS rwS_53 hb2) (by decide) (pm_rowN rwN_53 hb2) ?_
        refine fr_aload_n (pc := 55) dX8_add_55 rfl rfl ?_
        refine fr_dup (pc := 56) dX8_add_56 pm_t2 ?_
        refine fr_getf (a := 52) (i := 2) (v := gI M 52 2) (t := 0) (pc := 57) dX8_add_57 rfl pf_8_20 rfl s0_52 rfl ((gI_ne _ _ _ _ (by omega)).trans ((gI_ne _ _ _ _ (by omega)).trans ((gI_ne _ _ _ _ (by omega)).trans ((gI_ne _ _ _ _ (by omega)).trans (gI_ne _ _ _ _ (by omega)))))) ?_
        refine fr_aload (pc := 60) dX8_add_60 rfl (pm_isA_nat _) ?_
        refine fr_iconst (pc := 62) dX8_add_62 (by decide) ?_
        refine fr_iaload (a := (53 + 1 + (gI M 52 1).toNat)) (v := 0) (pc := 63) dX8_add_63 rfl (pm_rowS rwS_53 hb2) (by decide) (gI_eq _ _ _ _) ?_
        refine fr_iadd (z := w32 ((gI M 52 2) + 0)) (pc := 64) dX8_add_64 rfl ?_
        refine fr_put (a := 52) (i := 2) (pc := 65) dX8_add_65 rfl pf_8_20 rfl s0_52 rfl rfl nf_52_2 rfl ?_
        refine fr_aload_n (pc := 68) dX8_add_68 rfl rfl ?_
        refine fr_dup (pc := 69) dX8_add_69 pm_t2 ?_
        refine fr_getf (a := 52) (i := 1) (v := gI M 52 1) (t := 0) (pc := 70) dX8_add_70 rfl pf_8_16 rfl s0_52 rfl ((gI_nf _ _ (by decide)).trans ((gI_ne _ _ _ _ (by omega)).trans ((gI_ne _ _ _ _ (by omega)).trans ((gI_ne _ _ _ _ (by omega)).trans ((gI_ne _ _ _ _ (by omega)).trans (gI_ne _ _ _ _ (by omega))))))) ?_
        refine fr_iconst (pc := 73) dX8_add_73 (by decide) ?_
        refine fr_iadd (z := w32 ((gI M 52 1) + 1)) (pc := 74) dX8_add_74 rfl ?_
        refine fr_put (a := 52) (i := 1) (pc := 75) dX8_add_75 rfl pf_8_16 rfl s0_52 rfl rfl nf_52_1 rfl ?_
        exact fr_vret (pc := 78) dX8_add_78 rfl hq
      · refine fr_iconst (pc := 49) dX8_add_49 (by decide) ?_
        refine fr_goto (tg := 54) (pc := 50) dX8_add_50 rfl ?_
        refine fr_iastore (a := (53 + 1 + (gI M 52 1).toNat)) (pc := 54) dX8_add_54 rfl (pm_rowS rwS_53 hb2) (by decide) (pm_rowN rwN_53 hb2) ?_
        refine fr_aload_n (pc := 55) dX8_add_55 rfl rfl ?_
        refine fr_dup (pc := 56) dX8_add_56 pm_t2 ?_
        refine fr_getf (a := 52) (i := 2) (v := gI M 52 2) (t := 0) (pc := 57) dX8_add_57 rfl pf_8_20 rfl s0_52 rfl ((gI_ne _ _ _ _ (by omega)).trans ((gI_ne _ _ _ _ (by omega)).trans ((gI_ne _ _ _ _ (by omega)).trans ((gI_ne _ _ _ _ (by omega)).trans (gI_ne _ _ _ _ (by omega)))))) ?_
        refine fr_aload (pc := 60) dX8_add_60 rfl (pm_isA_nat _) ?_
        refine fr_iconst (pc := 62) dX8_add_62 (by decide) ?_
        refine fr_iaload (a := (53 + 1 + (gI M 52 1).toNat)) (v := 1) (pc := 63) dX8_add_63 rfl (pm_rowS rwS_53 hb2) (by decide) (gI_eq _ _ _ _) ?_
        refine fr_iadd (z := w32 ((gI M 52 2) + 1)) (pc := 64) dX8_add_64 rfl ?_
        refine fr_put (a := 52) (i := 2) (pc := 65) dX8_add_65 rfl pf_8_20 rfl s0_52 rfl rfl nf_52_2 rfl ?_
        refine fr_aload_n (pc := 68) dX8_add_68 rfl rfl ?_
        refine fr_dup (pc := 69) dX8_add_69 pm_t2 ?_
        refine fr_getf (a := 52) (i := 1) (v := gI M 52 1) (t := 0) (pc := 70) dX8_add_70 rfl pf_8_16 rfl s0_52 rfl ((gI_nf _ _ (by decide)).trans ((gI_ne _ _ _ _ (by omega)).trans ((gI_ne _ _ _ _ (by omega)).trans ((gI_ne _ _ _ _ (by omega)).trans ((gI_ne _ _ _ _ (by omega)).trans (gI_ne _ _ _ _ (by omega))))))) ?_
        refine fr_iconst (pc := 73) dX8_add_73 (by decide) ?_
        refine fr_iadd (z := w32 ((gI M 52 1) + 1)) (pc := 74) dX8_add_74 rfl ?_
        refine fr_put (a := 52) (i := 1) (pc := 75) dX8_add_75 rfl pf_8_16 rfl s0_52 rfl rfl nf_52_1 rfl ?_
        exact fr_vret (pc := 78) dX8_add_78 rfl hq
    · exact fr_vret (pc := 78) dX8_add_78 rfl hq
theorem k11_run_r {a1 a2 : Int} {M : pm_M} {K : Int → pm_M → Prop} (hq : k11_hasRun a1 M (fun r2 M1 => (if r2 = 0 then K (-1) M1 else (if a2 = 0 then ((0 ≤ a1 ∧ a1 < 16) ∧ K (gI M1 78 a1) M1) else (if a2 = 1 then ((0 ≤ a1 ∧ a1 < 16) ∧ K (gI M1 79 a1) M1) else (if a2 = 2 then ((0 ≤ a1 ∧ a1 < 16) ∧ K (gI M1 80 a1) M1) else (if a2 = 3 then ((0 ≤ a1 ∧ a1 < 16) ∧ (if gI M1 82 a1 = 0 then K 0 M1 else K 1 M1)) else K (-1) M1))))))) : k11_run a1 a2 M K := by
  intro sc d hd
  refine fr_aload_n (pc := 0) dX11_run_0 rfl rfl ?_
  refine fr_iload_n (pc := 1) dX11_run_1 rfl rfl ?_
  refine fr_inVI (a := 0) (as := [(0, a1)]) (rest := []) (ls' := [(2, 0), (0, a1)]) (c1 := 0) (c2 := 0) (pc := 2) dX11_run_2 pl_11_170 rfl ⟨Nat.le_of_ble_eq_true rfl, Nat.le_of_ble_eq_true rfl⟩ rfl rfl rfl s0_0 (Nat.le_of_ble_eq_true rfl) (by omega) rfl rfl (pm_zc _) (hq sc _ (by omega)) (fun r2 M1 hq => ?_)
  refine fr_ifc_ne (tg := 10) (pc := 5) dX11_run_5 rfl hq (fun hc3 hq => ?_) (fun hc3 hq => ?_)
  · refine fr_iconst (pc := 8) dX11_run_8 (by decide) ?_
    exact fr_iret (pc := 9) dX11_run_9 (Or.inl rfl) hq
  · refine fr_iload_n (pc := 10) dX11_run_10 rfl rfl ?_
    refine pm_ite hq (fun hc4 hq => ?_) (fun hc4 hq => ?_)
    · refine fr_tabV (tg := 40) (off := 29) (v := 0) (pc := 11) dX11_run_11 hc4 (by decide) rfl rfl ?_
      refine fr_aload_n (pc := 40) dX11_run_40 rfl rfl ?_
      refine fr_getr (a := 0) (pc := 41) dX11_run_41 rfl pf_11_68 s0_0 rfl rf_0_9 ?_
      refine fr_getr (a := 77) (pc := 44) dX11_run_44 rfl pf_11_173 s0_77 rfl rf_77_3 ?_
      refine fr_iload_n (pc := 47) dX11_run_47 rfl rfl ?_
      obtain ⟨hb5, hq⟩ := hq
      refine fr_iaload (a := 78) (v := gI M1 78 a1) (pc := 48) dX11_run_48 rfl s0_78 hb5 rfl ?_
      exact fr_iret (pc := 49) dX11_run_49 (Or.inl rfl) hq
    · refine pm_ite hq (fun hc6 hq => ?_) (fun hc6 hq => ?_)
      · refine fr_tabV (tg := 50) (off := 39) (v := 1) (pc := 11) dX11_run_11 hc6 (by decide) rfl rfl ?_
        refine fr_aload_n (pc := 50) dX11_run_50 rfl rfl ?_
        refine fr_getr (a := 0) (pc := 51) dX11_run_51 rfl pf_11_68 s0_0 rfl rf_0_9 ?_
        refine fr_getr (a := 77) (pc := 54) dX11_run_54 rfl pf_11_176 s0_77 rfl rf_77_4 ?_
        refine fr_iload_n (pc := 57) dX11_run_57 rfl rfl ?_
        obtain ⟨hb7, hq⟩ := hq
        refine fr_iaload (a := 79) (v := gI M1 79 a1) (pc := 58) dX11_run_58 rfl s0_79 hb7 rfl ?_
        exact fr_iret (pc := 59) dX11_run_59 (Or.inl rfl) hq
      · refine pm_ite hq (fun hc8 hq => ?_) (fun hc8 hq => ?_)
        · refine fr_tabV (tg := 60) (off := 49) (v := 2) (pc := 11) dX11_run_11 hc8 (by decide) rfl rfl ?_
          refine fr_aload_n (pc := 60) dX11_run_60 rfl rfl ?_
          refine fr_getr (a := 0) (pc := 61) dX11_run_61 rfl pf_11_68 s0_0 rfl rf_0_9 ?_
          refine fr_getr (a := 77) (pc := 64) dX11_run_64 rfl pf_11_179 s0_77 rfl rf_77_5 ?_
          refine fr_iload_n (pc := 67) dX11_run_67 rfl rfl ?_
          obtain ⟨hb9, hq⟩ := hq
          refine fr_iaload (a := 80) (v := gI M1 80 a1) (pc := 68) dX11_run_68 rfl s0_80 hb9 rfl ?_
          exact fr_iret (pc := 69) dX11_run_69 (Or.inl rfl) hq
        · refine pm_ite hq (fun hc10 hq => ?_) (fun hc10 hq => ?_)
          · refine fr_tabV (tg := 70) (off := 59) (v := 3) (pc := 11) dX11_run_11 hc10 (by decide) rfl rfl ?_
            refine fr_aload_n (pc := 70) dX11_run_70 rfl rfl ?_
            refine fr_getr (a := 0) (pc := 71) dX11_run_71 rfl pf_11_68 s0_0 rfl rf_0_9 ?_
            refine fr_getr (a := 77) (pc := 74) dX11_run_74 rfl pf_11_182 s0_77 rfl rf_77_7 ?_
            refine fr_iload_n (pc := 77) dX11_run_77 rfl rfl ?_
            obtain ⟨hb11, hq⟩ := hq
            refine fr_baload (a := 82) (v := gI M1 82 a1) (pc := 78) dX11_run_78 rfl s0_82 hb11 (Or.inr rfl) rfl ?_
            refine fr_ifc_eq (tg := 86) (pc := 79) dX11_run_79 rfl hq (fun hc12 hq => ?_) (fun hc12 hq => ?_)
            · refine fr_iconst (pc := 86) dX11_run_86 (by decide) ?_
              exact fr_iret (pc := 87) dX11_run_87 (Or.inl rfl) hq
            · refine fr_iconst (pc := 82) dX11_run_82 (by decide) ?_
              refine fr_goto (tg := 87) (pc := 83) dX11_run_83 rfl ?_
              exact fr_iret (pc := 87) dX11_run_87 (Or.inl rfl) hq
          · refine fr_tableO (tg := 88) (pc := 11) dX11_run_11 (by omega) rfl ?_
            refine fr_iconst (pc := 88) dX11_run_88 (by decide) ?_
            exact fr_iret (pc := 89) dX11_run_89 (Or.inl rfl) hq
theorem k11_hasRun_r {a1 : Int} {M : pm_M} {K : Int → pm_M → Prop} (hq : (if gI M 2 15 = 0 then K 0 M else (if a1 < 0 then K 0 M else (if a1 < gI M 18 1 then k11_learnRuns M (fun M4 => K 1 M4) else K 0 M)))) : k11_hasRun a1 M K := by
  intro sc d hd
  refine fr_aload_n (pc := 0) dX11_hasRun_0 rfl rfl ?_
  refine fr_getr (a := 0) (pc := 1) dX11_hasRun_1 rfl pf_11_16 s0_0 rfl rf_0_4 ?_
  refine fr_getf (a := 2) (i := 15) (v := gI M 2 15) (t := 0) (pc := 4) dX11_hasRun_4 rfl pf_11_121 rfl s0_2 rfl rfl ?_
  refine fr_ifc_eq (tg := 21) (pc := 7) dX11_hasRun_7 rfl hq (fun hc1 hq => ?_) (fun hc1 hq => ?_)
  · refine fr_iconst (pc := 21) dX11_hasRun_21 (by decide) ?_
    exact fr_iret (pc := 22) dX11_hasRun_22 (Or.inr (Or.inl ⟨rfl, Or.inl rfl⟩)) hq
  · refine fr_aload_n (pc := 10) dX11_hasRun_10 rfl rfl ?_
    refine fr_getr (a := 0) (pc := 11) dX11_hasRun_11 rfl pf_11_23 s0_0 rfl rf_0_5 ?_
    refine fr_iload_n (pc := 14) dX11_hasRun_14 rfl rfl ?_
    refine fr_inVI (a := 18) (as := [(0, a1)]) (rest := []) (ls' := [(2, 18), (0, a1)]) (c1 := 0) (c2 := 0) (pc := 15) dX11_hasRun_15 pl_11_161 rfl ⟨Nat.le_of_ble_eq_true rfl, Nat.le_of_ble_eq_true rfl⟩ rfl rfl rfl s0_18 (Nat.le_of_ble_eq_true rfl) (by omega) rfl rfl (pm_zc _) ?_ (fun y M' h => h)
    refine fr_iload_n (pc := 0) dX8_hasTest_0 rfl rfl ?_
    refine fr_ifc_lt (tg := 16) (pc := 1) dX8_hasTest_1 rfl hq (fun hc2 hq => ?_) (fun hc2 hq => ?_)
    · refine fr_iconst (pc := 16) dX8_hasTest_16 (by decide) ?_
      refine fr_iret (pc := 17) dX8_hasTest_17 (Or.inr (Or.inl ⟨rfl, Or.inl rfl⟩)) ?_
      refine fr_ifcF (tg := 23) (pc := 18) dX11_hasRun_18 rfl rfl ?_
      refine fr_iconst (pc := 21) dX11_hasRun_21 (by decide) ?_
      exact fr_iret (pc := 22) dX11_hasRun_22 (Or.inr (Or.inl ⟨rfl, Or.inl rfl⟩)) hq
    · refine fr_iload_n (pc := 4) dX8_hasTest_4 rfl rfl ?_
      refine fr_aload_n (pc := 5) dX8_hasTest_5 rfl rfl ?_
      refine fr_getf (a := 18) (i := 1) (v := gI M 18 1) (t := 0) (pc := 6) dX8_hasTest_6 rfl pf_8_16 rfl s0_18 rfl rfl ?_
      refine fr_icm_ge (tg := 16) (pc := 9) dX8_hasTest_9 rfl hq (fun hc3 hq => ?_) (fun hc3 hq => ?_)
      · refine fr_iconst (pc := 12) dX8_hasTest_12 (by decide) ?_
        refine fr_goto (tg := 17) (pc := 13) dX8_hasTest_13 rfl ?_
        refine fr_iret (pc := 17) dX8_hasTest_17 (Or.inr (Or.inl ⟨rfl, Or.inr rfl⟩)) ?_
        refine fr_ifcT (tg := 23) (pc := 18) dX11_hasRun_18 rfl rfl ?_
        refine fr_aload_n (pc := 23) dX11_hasRun_23 rfl rfl ?_
        refine fr_inVV (a := 0) (as := []) (rest := []) (ls' := [(2, 0)]) (c1 := 0) (c2 := 0) (pc := 24) dX11_hasRun_24 pl_11_195 rfl ⟨Nat.le_of_ble_eq_true rfl, Nat.le_of_ble_eq_true rfl⟩ rfl rfl rfl s0_0 (Nat.le_of_ble_eq_true rfl) (by omega) rfl rfl (pm_zc _) (hq sc _ (by omega)) (fun M4 hq => ?_)
        refine fr_iconst (pc := 27) dX11_hasRun_27 (by decide) ?_
        exact fr_iret (pc := 28) dX11_hasRun_28 (Or.inr (Or.inl ⟨rfl, Or.inr rfl⟩)) hq
      · refine fr_iconst (pc := 16) dX8_hasTest_16 (by decide) ?_
        refine fr_iret (pc := 17) dX8_hasTest_17 (Or.inr (Or.inl ⟨rfl, Or.inl rfl⟩)) ?_
        refine fr_ifcF (tg := 23) (pc := 18) dX11_hasRun_18 rfl rfl ?_
        refine fr_iconst (pc := 21) dX11_hasRun_21 (by decide) ?_
        exact fr_iret (pc := 22) dX11_hasRun_22 (Or.inr (Or.inl ⟨rfl, Or.inl rfl⟩)) hq
theorem k11_learnRuns_r {M : pm_M} {K : pm_M → Prop} (hq : (if gI M 0 14 = 0 then k6_learn (upI M 0 14 1) (fun M2 => k5_learn M2 (fun M4 => K M4)) else K M)) : k11_learnRuns M K := by
  intro sc d hd
  refine fr_aload_n (pc := 0) dX11_learnRuns_0 rfl rfl ?_
  refine fr_getf (a := 0) (i := 14) (v := gI M 0 14) (t := 0) (pc := 1) dX11_learnRuns_1 rfl pf_11_328 rfl s0_0 rfl rfl ?_
  refine fr_ifc_ne (tg := 26) (pc := 4) dX11_learnRuns_4 rfl hq (fun hc1 hq => ?_) (fun hc1 hq => ?_)
  · refine fr_aload_n (pc := 7) dX11_learnRuns_7 rfl rfl ?_
    refine fr_iconst (pc := 8) dX11_learnRuns_8 (by decide) ?_
    refine fr_put (a := 0) (i := 14) (pc := 9) dX11_learnRuns_9 rfl pf_11_328 rfl s0_0 rfl rfl nf_0_14 rfl ?_
    refine fr_aload_n (pc := 12) dX11_learnRuns_12 rfl rfl ?_
    refine fr_getr (a := 0) (pc := 13) dX11_learnRuns_13 rfl pf_11_68 s0_0 rfl rf_0_9 ?_
    refine fr_inVV (a := 77) (as := []) (rest := []) (ls' := [(2, 77), (9, 0)]) (c1 := 0) (c2 := 0) (pc := 16) dX11_learnRuns_16 pl_11_331 rfl ⟨Nat.le_of_ble_eq_true rfl, Nat.le_of_ble_eq_true rfl⟩ rfl rfl rfl s0_77 (Nat.le_of_ble_eq_true rfl) (by omega) rfl rfl (pm_zc _) (hq sc _ (by omega)) (fun M2 hq => ?_)
    refine fr_aload_n (pc := 19) dX11_learnRuns_19 rfl rfl ?_
    refine fr_getr (a := 0) (pc := 20) dX11_learnRuns_20 rfl pf_11_77 s0_0 rfl rf_0_10 ?_
    refine fr_inVV (a := 117) (as := []) (rest := []) (ls' := [(2, 117), (9, 0), (9, 0)]) (c1 := 0) (c2 := 0) (pc := 23) dX11_learnRuns_23 pl_11_334 rfl ⟨Nat.le_of_ble_eq_true rfl, Nat.le_of_ble_eq_true rfl⟩ rfl rfl rfl s0_117 (Nat.le_of_ble_eq_true rfl) (by omega) rfl rfl (pm_zc _) (hq sc _ (by omega)) (fun M4 hq => ?_)
    exact fr_vret (pc := 26) dX11_learnRuns_26 rfl hq
  · exact fr_vret (pc := 26) dX11_learnRuns_26 rfl hq
theorem k6_learn_r {M : pm_M} {K : pm_M → Prop} (hq : (if gI M 2 15 = 0 then K (upI (upI (upI (upI M 77 10 0) 77 11 0) 77 12 0) 77 13 (-1)) else k6_learn_35 0 (upI (upI (upI (upI M 77 10 0) 77 11 0) 77 12 0) 77 13 (-1)) K)) : k6_learn M K := by
  intro sc d hd
  refine fr_aload_n (pc := 0) dX6_learn_0 rfl rfl ?_
  refine fr_iconst (pc := 1) dX6_learn_1 (by decide) ?_
  refine fr_put (a := 77) (i := 10) (pc := 2) dX6_learn_2 rfl pf_6_48 rfl s0_77 rfl rfl nf_77_10 rfl ?_
  refine fr_aload_n (pc := 5) dX6_learn_5 rfl rfl ?_
  refine fr_iconst (pc := 6) dX6_learn_6 (by decide) ?_
  refine fr_put (a := 77) (i := 11) (pc := 7) dX6_learn_7 rfl pf_6_52 rfl s0_77 rfl rfl nf_77_11 rfl ?_
  refine fr_aload_n (pc := 10) dX6_learn_10 rfl rfl ?_
  refine fr_iconst (pc := 11) dX6_learn_11 (by decide) ?_
  refine fr_put (a := 77) (i := 12) (pc := 12) dX6_learn_12 rfl pf_6_55 rfl s0_77 rfl rfl nf_77_12 rfl ?_
  refine fr_aload_n (pc := 15) dX6_learn_15 rfl rfl ?_
  refine fr_ldc2 (pc := 16) dX6_learn_16 rfl ?_
  refine fr_put (a := 77) (i := 13) (pc := 19) dX6_learn_19 rfl pf_6_60 rfl s0_77 rfl rfl nf_77_13 rfl ?_
  refine fr_aload_n (pc := 22) dX6_learn_22 rfl rfl ?_
  refine fr_getr (a := 77) (pc := 23) dX6_learn_23 rfl pf_6_36 s0_77 rfl rf_77_0 ?_
  refine fr_getf (a := 2) (i := 15) (v := gI M 2 15) (t := 0) (pc := 26) dX6_learn_26 rfl pf_6_64 rfl s0_2 rfl ((gI_ne _ _ _ _ (by decide)).trans ((gI_ne _ _ _ _ (by decide)).trans ((gI_ne _ _ _ _ (by decide)).trans (gI_ne _ _ _ _ (by decide))))) ?_
  refine fr_ifc_ne (tg := 33) (pc := 29) dX6_learn_29 rfl hq (fun hc1 hq => ?_) (fun hc1 hq => ?_)
  · exact fr_vret (pc := 32) dX6_learn_32 rfl hq
  · refine fr_iconst (pc := 33) dX6_learn_33 (by decide) ?_
    refine fr_istore_n (ls2 := [(2, 77), (0, 0)]) (pc := 34) dX6_learn_34 rfl (Nat.le_of_ble_eq_true rfl) rfl ?_
    exact hq sc d hd
theorem k6_learn_35_r {l1 : Int} {M : pm_M} {K : pm_M → Prop} (hq : (if l1 < gI M 18 1 then k6_learnTest l1 M (fun M2 => k6_learn_35 (w32 (l1 + 1)) M2 K) else K M)) : k6_learn_35 l1 M K := by
  intro sc d hd
  refine fr_iload_n (pc := 35) dX6_learn_35 rfl rfl ?_
  refine fr_aload_n (pc := 36) dX6_learn_36 rfl rfl ?_
  refine fr_getr (a := 77) (pc := 37) dX6_learn_37 rfl pf_6_40 s0_77 rfl rf_77_1 ?_
  refine fr_getf (a := 18) (i := 1) (v := gI M 18 1) (t := 0) (pc := 40) dX6_learn_40 rfl pf_6_69 rfl s0_18 rfl rfl ?_
  refine fr_icm_ge (tg := 57) (pc := 43) dX6_learn_43 rfl hq (fun hc1 hq => ?_) (fun hc1 hq => ?_)
  · refine fr_aload_n (pc := 46) dX6_learn_46 rfl rfl ?_
    refine fr_iload_n (pc := 47) dX6_learn_47 rfl rfl ?_
    refine fr_inVV (a := 77) (as := [(0, l1)]) (rest := []) (ls' := [(2, 77), (0, l1), (9, 0)]) (c1 := 0) (c2 := 0) (pc := 48) dX6_learn_48 pl_6_72 rfl ⟨Nat.le_of_ble_eq_true rfl, Nat.le_of_ble_eq_true rfl⟩ rfl rfl rfl s0_77 (Nat.le_of_ble_eq_true rfl) (by omega) rfl rfl (pm_zc _) (hq sc _ (by omega)) (fun M2 hq => ?_)
    refine fr_iinc (z := w32 (l1 + 1)) (ls2 := [(2, 77), (0, w32 (l1 + 1))]) (pc := 51) dX6_learn_51 (Nat.le_of_ble_eq_true rfl) rfl rfl rfl ?_
    refine fr_goto (tg := 35) (pc := 54) dX6_learn_54 rfl ?_
    exact hq sc d hd
  · exact fr_vret (pc := 57) dX6_learn_57 rfl hq
theorem k6_learnTest_r {a1 : Int} {M : pm_M} {K : pm_M → Prop} (hq : k1_passes a1 M (fun r2 M1 => ((0 ≤ a1 ∧ a1 < 16) ∧ ((r2 = 0 ∨ r2 = 1) ∧ kJ7_fill_53178 (101 + a1.toNat) 0 (upI (upI (upI (upI (upI M1 82 a1 r2) 78 a1 (gI M1 73 6)) 79 a1 (gI M1 73 7)) 80 a1 (gI M1 73 5)) 81 a1 (gI M1 73 8)) (fun M5 => k6_learnTest_78 a1 0 M5 K))))) : k6_learnTest a1 M K := by
  intro sc d hd
  refine fr_aload_n (pc := 0) dX6_learnTest_0 rfl rfl ?_
  refine fr_getr (a := 77) (pc := 1) dX6_learnTest_1 rfl pf_6_24 s0_77 rfl rf_77_7 ?_
  refine fr_iload_n (pc := 4) dX6_learnTest_4 rfl rfl ?_
  refine fr_aload_n (pc := 5) dX6_learnTest_5 rfl rfl ?_
  refine fr_getr (a := 77) (pc := 6) dX6_learnTest_6 rfl pf_6_44 s0_77 rfl rf_77_2 ?_
  refine fr_iload_n (pc := 9) dX6_learnTest_9 rfl rfl ?_
  refine fr_inVI (a := 73) (as := [(0, a1)]) (rest := [(0, a1), (2, 82)]) (ls' := [(2, 73), (0, a1), (9, 0), (9, 0)]) (c1 := 0) (c2 := 0) (pc := 10) dX6_learnTest_10 pl_6_76 rfl ⟨Nat.le_of_ble_eq_true rfl, Nat.le_of_ble_eq_true rfl⟩ rfl rfl rfl s0_73 (Nat.le_of_ble_eq_true rfl) (by omega) rfl rfl (pm_zc _) (hq sc _ (by omega)) (fun r2 M1 hq => ?_)
  obtain ⟨hb3, hq⟩ := hq
  obtain ⟨hz4, hq⟩ := hq
  refine fr_zastore (a := 82) (pc := 13) dX6_learnTest_13 rfl s0_82 hb3 nr_82 hz4 ?_
  refine fr_aload_n (pc := 14) dX6_learnTest_14 rfl rfl ?_
  refine fr_getr (a := 77) (pc := 15) dX6_learnTest_15 rfl pf_6_9 s0_77 rfl rf_77_3 ?_
  refine fr_iload_n (pc := 18) dX6_learnTest_18 rfl rfl ?_
  refine fr_aload_n (pc := 19) dX6_learnTest_19 rfl rfl ?_
  refine fr_getr (a := 77) (pc := 20) dX6_learnTest_20 rfl pf_6_44 s0_77 rfl rf_77_2 ?_
  refine fr_getf (a := 73) (i := 6) (v := gI M1 73 6) (t := 0) (pc := 23) dX6_learnTest_23 rfl pf_6_82 rfl s0_73 rfl (gI_ne _ _ _ _ (by decide)) ?_
  refine fr_iastore (a := 78) (pc := 26) dX6_learnTest_26 rfl s0_78 hb3 nr_78 ?_
  refine fr_aload_n (pc := 27) dX6_learnTest_27 rfl rfl ?_
  refine fr_getr (a := 77) (pc := 28) dX6_learnTest_28 rfl pf_6_15 s0_77 rfl rf_77_4 ?_
  refine fr_iload_n (pc := 31) dX6_learnTest_31 rfl rfl ?_
  refine fr_aload_n (pc := 32) dX6_learnTest_32 rfl rfl ?_
  refine fr_getr (a := 77) (pc := 33) dX6_learnTest_33 rfl pf_6_44 s0_77 rfl rf_77_2 ?_
  refine fr_getf (a := 73) (i := 7) (v := gI M1 73 7) (t := 0) (pc := 36) dX6_learnTest_36 rfl pf_6_84 rfl s0_73 rfl ((gI_ne _ _ _ _ (by decide)).trans (gI_ne _ _ _ _ (by decide))) ?_
  refine fr_iastore (a := 79) (pc := 39) dX6_learnTest_39 rfl s0_79 hb3 nr_79 ?_
  refine fr_aload_n (pc := 40) dX6_learnTest_40 rfl rfl ?_
  refine fr_getr (a := 77) (pc := 41) dX6_learnTest_41 rfl pf_6_18 s0_77 rfl rf_77_5 ?_
  refine fr_iload_n (pc := 44) dX6_learnTest_44 rfl rfl ?_
  refine fr_aload_n (pc := 45) dX6_learnTest_45 rfl rfl ?_
  refine fr_getr (a := 77) (pc := 46) dX6_learnTest_46 rfl pf_6_44 s0_77 rfl rf_77_2 ?_
  refine fr_getf (a := 73) (i := 5) (v := gI M1 73 5) (t := 0) (pc := 49) dX6_learnTest_49 rfl pf_6_86 rfl s0_73 rfl ((gI_ne _ _ _ _ (by decide)).trans ((gI_ne _ _ _ _ (by decide)).trans (gI_ne _ _ _ _ (by decide)))) ?_
  refine fr_iastore (a := 80) (pc := 52) dX6_learnTest_52 rfl s0_80 hb3 nr_80 ?_
  refine fr_aload_n (pc := 53) dX6_learnTest_53 rfl rfl ?_
  refine fr_getr (a := 77) (pc := 54) dX6_learnTest_54 rfl pf_6_21 s0_77 rfl rf_77_6 ?_
  refine fr_iload_n (pc := 57) dX6_learnTest_57 rfl rfl ?_
  refine fr_aload_n (pc := 58) dX6_learnTest_58 rfl rfl ?_
  refine fr_getr (a := 77) (pc := 59) dX6_learnTest_59 rfl pf_6_44 s0_77 rfl rf_77_2 ?_
  refine fr_getf (a := 73) (i := 8) (v := gI M1 73 8) (t := 0) (pc := 62) dX6_learnTest_62 rfl pf_6_88 rfl s0_73 rfl ((gI_ne _ _ _ _ (by decide)).trans ((gI_ne _ _ _ _ (by decide)).trans ((gI_ne _ _ _ _ (by decide)).trans (gI_ne _ _ _ _ (by decide))))) ?_
  refine fr_iastore (a := 81) (pc := 65) dX6_learnTest_65 rfl s0_81 hb3 nr_81 ?_
  refine fr_aload_n (pc := 66) dX6_learnTest_66 rfl rfl ?_
  refine fr_getr (a := 77) (pc := 67) dX6_learnTest_67 rfl pf_6_33 s0_77 rfl rf_77_9 ?_
  refine fr_iload_n (pc := 70) dX6_learnTest_70 rfl rfl ?_
  refine fr_aaload (a := 100) (pc := 71) dX6_learnTest_71 rfl s0_100 hb3 rws_100 ?_
  refine fr_iconst (pc := 72) dX6_learnTest_72 (by decide) ?_
  refine fr_inSV (as := [(2, ((100 + 1 + a1.toNat : Nat) : Int)), (0, 0)]) (rest := []) (ls' := [(2, ((100 + 1 + a1.toNat : Nat) : Int)), (0, 0), (9, 0), (9, 0)]) (c1 := 0) (c2 := 0) (pc := 73) dX6_learnTest_73 pl_6_90 rfl ⟨Nat.le_of_ble_eq_true rfl, Nat.le_of_ble_eq_true rfl⟩ rfl rfl  (by omega) rfl rfl (pm_zc _) (hq sc _ (by omega)) (fun M5 hq => ?_)
  refine fr_iconst (pc := 76) dX6_learnTest_76 (by decide) ?_
  refine fr_istore_n (ls2 := [(2, 77), (0, a1), (0, 0)]) (pc := 77) dX6_learnTest_77 rfl (Nat.le_of_ble_eq_true rfl) rfl ?_
  exact hq sc d hd
theorem k6_learnTest_78_r {l1 l2 : Int} {M : pm_M} {K : pm_M → Prop} (hq : (if l2 < gI M 73 5 then ((0 ≤ l1 ∧ l1 < 16) ∧ ((0 ≤ l2 ∧ l2 < 300) ∧ ((0 ≤ gI M 76 l2 ∧ gI M 76 l2 < 60) ∧ k6_learnTest_78 l1 (w32 (l2 + 1)) (upI (upI M (84 + l1.toNat) l2 (gI M 76 l2)) (101 + l1.toNat) (gI M 76 l2) (w32 ((gI (upI M (84 + l1.toNat) l2 (gI M 76 l2)) (101 + l1.toNat) (gI M 76 l2)) + 1))) K))) else ((0 ≤ l1 ∧ l1 < 16) ∧ (if gI M (20 + l1.toNat) 4 = 1 then (if gI M 82 l1 = 0 then K (upI M 77 12 (w32 ((gI M 77 12) + 0))) else K (upI M 77 12 (w32 ((gI M 77 12) + 1)))) else (if gI M 82 l1 = 0 then K (upI (upI M 77 11 (w32 ((gI M 77 11) + 1))) 77 13 (pm_land (gI M 77 13) (gI M 73 9))) else K (upI M 77 10 (w32 ((gI M 77 10) + 1)))))))) : k6_learnTest_78 l1 l2 M K := by
  intro sc d hd
  refine fr_iload_n (pc := 78) dX6_learnTest_78 rfl rfl ?_
  refine fr_aload_n (pc := 79) dX6_learnTest_79 rfl rfl ?_
  refine fr_getr (a := 77) (pc := 80) dX6_learnTest_80 rfl pf_6_44 s0_77 rfl rf_77_2 ?_
  refine fr_getf (a := 73) (i := 5) (v := gI M 73 5) (t := 0) (pc := 83) dX6_learnTest_83 rfl pf_6_86 rfl s0_73 rfl rfl ?_
  refine fr_icm_ge (tg := 132) (pc := 86) dX6_learnTest_86 rfl hq (fun hc1 hq => ?_) (fun hc1 hq => ?_)
  · refine fr_aload_n (pc := 89) dX6_learnTest_89 rfl rfl ?_
    refine fr_getr (a := 77) (pc := 90) dX6_learnTest_90 rfl pf_6_30 s0_77 rfl rf_77_8 ?_
    refine fr_iload_n (pc := 93) dX6_learnTest_93 rfl rfl ?_
    obtain ⟨hb2, hq⟩ := hq
    refine fr_aaload (a := 83) (pc := 94) dX6_learnTest_94 rfl s0_83 hb2 rws_83 ?_
    refine fr_iload_n (pc := 95) dX6_learnTest_95 rfl rfl ?_
    refine fr_aload_n (pc := 96) dX6_learnTest_96 rfl rfl ?_
    refine fr_getr (a := 77) (pc := 97) dX6_learnTest_97 rfl pf_6_44 s0_77 rfl rf_77_2 ?_
    refine fr_getr (a := 73) (pc := 100) dX6_learnTest_100 rfl pf_6_96 s0_73 rfl rf_73_4 ?_
    refine fr_iload_n (pc := 103) dX6_learnTest_103 rfl rfl ?_
    obtain ⟨hb3, hq⟩ := hq
    refine fr_iaload (a := 76) (v := gI M 76 l2) (pc := 104) dX6_learnTest_104 rfl s0_76 hb3 rfl ?_
    refine fr_iastore (a := (83 + 1 + l1.toNat)) (pc := 105) dX6_learnTest_105 rfl (pm_rowS rwS_83 hb2) hb3 (pm_rowN rwN_83 hb2) ?_
    refine fr_aload_n (pc := 106) dX6_learnTest_106 rfl rfl ?_
    refine fr_getr (a := 77) (pc := 107) dX6_learnTest_107 rfl pf_6_33 s0_77 rfl rf_77_9 ?_
    refine fr_iload_n (pc := 110) dX6_learnTest_110 rfl rfl ?_
    refine fr_aaload (a := 100) (pc := 111) dX6_learnTest_111 rfl s0_100 hb2 rws_100 ?_
    refine fr_aload_n (pc := 112) dX6_learnTest_112 rfl rfl ?_
    refine fr_getr (a := 77) (pc := 113) dX6_learnTest_113 rfl pf_6_44 s0_77 rfl rf_77_2 ?_
    refine fr_getr (a := 73) (pc := 116) dX6_learnTest_116 rfl pf_6_96 s0_73 rfl rf_73_4 ?_
    refine fr_iload_n (pc := 119) dX6_learnTest_119 rfl rfl ?_
    refine fr_iaload (a := 76) (v := gI M 76 l2) (pc := 120) dX6_learnTest_120 rfl s0_76 hb3 (gI_ne _ _ _ _ (by omega)) ?_
    refine fr_dup2 (pc := 121) dX6_learnTest_121 pm_t0 pm_t2 ?_
    obtain ⟨hb4, hq⟩ := hq
    refine fr_iaload (a := (100 + 1 + l1.toNat)) (v := gI (upI M (84 + l1.toNat) l2 (gI M 76 l2)) (101 + l1.toNat) (gI M 76 l2)) (pc := 122) dX6_learnTest_122 rfl (pm_rowS rwS_100 hb2) hb4 rfl ?_
    refine fr_iconst (pc := 123) dX6_learnTest_123 (by decide) ?_
    refine fr_iadd (z := w32 ((gI (upI M (84 + l1.toNat) l2 (gI M 76 l2)) (101 + l1.toNat) (gI M 76 l2)) + 1)) (pc := 124) dX6_learnTest_124 rfl ?_
    refine fr_iastore (a := (100 + 1 + l1.toNat)) (pc := 125) dX6_learnTest_125 rfl (pm_rowS rwS_100 hb2) hb4 (pm_rowN rwN_100 hb2) ?_
    refine fr_iinc (z := w32 (l2 + 1)) (ls2 := [(2, 77), (0, l1), (0, w32 (l2 + 1))]) (pc := 126) dX6_learnTest_126 (Nat.le_of_ble_eq_true rfl) rfl rfl rfl ?_
    refine fr_goto (tg := 78) (pc := 129) dX6_learnTest_129 rfl ?_
    exact hq sc d hd
  · refine fr_aload_n (pc := 132) dX6_learnTest_132 rfl rfl ?_
    refine fr_getr (a := 77) (pc := 133) dX6_learnTest_133 rfl pf_6_40 s0_77 rfl rf_77_1 ?_
    refine fr_iload_n (pc := 136) dX6_learnTest_136 rfl rfl ?_
    refine fr_inVI (a := 18) (as := [(0, l1)]) (rest := []) (ls' := [(2, 18), (0, l1)]) (c1 := 0) (c2 := 0) (pc := 137) dX6_learnTest_137 pl_6_98 rfl ⟨Nat.le_of_ble_eq_true rfl, Nat.le_of_ble_eq_true rfl⟩ rfl rfl rfl s0_18 (Nat.le_of_ble_eq_true rfl) (by omega) rfl rfl (pm_zc _) ?_ (fun y M' h => h)
    refine fr_aload_n (pc := 0) dX8_isHeld_0 rfl rfl ?_
    refine fr_getr (a := 18) (pc := 1) dX8_isHeld_1 rfl pf_8_13 s0_18 rfl rf_18_0 ?_
    refine fr_iload_n (pc := 4) dX8_isHeld_4 rfl rfl ?_
    obtain ⟨hb5, hq⟩ := hq
    refine fr_aaload (a := 19) (pc := 5) dX8_isHeld_5 rfl s0_19 hb5 rws_19 ?_
    refine fr_iconst (pc := 6) dX8_isHeld_6 (by decide) ?_
    refine fr_iaload (a := (19 + 1 + l1.toNat)) (v := gI M (20 + l1.toNat) 4) (pc := 7) dX8_isHeld_7 rfl (pm_rowS rwS_19 hb5) (by decide) rfl ?_
    refine fr_iconst (pc := 8) dX8_isHeld_8 (by decide) ?_
    refine fr_icm_ne (tg := 16) (pc := 9) dX8_isHeld_9 rfl hq (fun hc6 hq => ?_) (fun hc6 hq => ?_)
    · refine fr_iconst (pc := 12) dX8_isHeld_12 (by decide) ?_
      refine fr_goto (tg := 17) (pc := 13) dX8_isHeld_13 rfl ?_
      refine fr_iret (pc := 17) dX8_isHeld_17 (Or.inr (Or.inl ⟨rfl, Or.inr rfl⟩)) ?_
      refine fr_ifcF (tg := 169) (pc := 140) dX6_learnTest_140 rfl rfl ?_
      refine fr_aload_n (pc := 143) dX6_learnTest_143 rfl rfl ?_
      refine fr_dup (pc := 144) dX6_learnTest_144 pm_t2 ?_
      refine fr_getf (a := 77) (i := 12) (v := gI M 77 12) (t := 0) (pc := 145) dX6_learnTest_145 rfl pf_6_55 rfl s0_77 rfl rfl ?_
      refine fr_aload_n (pc := 148) dX6_learnTest_148 rfl rfl ?_
      refine fr_getr (a := 77) (pc := 149) dX6_learnTest_149 rfl pf_6_24 s0_77 rfl rf_77_7 ?_
      refine fr_iload_n (pc := 152) dX6_learnTest_152 rfl rfl ?_
      refine fr_baload (a := 82) (v := gI M 82 l1) (pc := 153) dX6_learnTest_153 rfl s0_82 hb5 (Or.inr rfl) rfl ?_
      refine fr_ifc_eq (tg := 161) (pc := 154) dX6_learnTest_154 rfl hq (fun hc7 hq => ?_) (fun hc7 hq => ?_)
      · refine fr_iconst (pc := 161) dX6_learnTest_161 (by decide) ?_
        refine fr_iadd (z := w32 ((gI M 77 12) + 0)) (pc := 162) dX6_learnTest_162 rfl ?_
        refine fr_put (a := 77) (i := 12) (pc := 163) dX6_learnTest_163 rfl pf_6_55 rfl s0_77 rfl rfl nf_77_12 rfl ?_
        refine fr_goto (tg := 217) (pc := 166) dX6_learnTest_166 rfl ?_
        exact fr_vret (pc := 217) dX6_learnTest_217 rfl hq
      · refine fr_iconst (pc := 157) dX6_learnTest_157 (by decide) ?_
        refine fr_goto (tg := 162) (pc := 158) dX6_learnTest_158 rfl ?_
        refine fr_iadd (z := w32 ((gI M 77 12) + 1)) (pc := 162) dX6_learnTest_162 rfl ?_
        refine fr_put (a := 77) (i := 12) (pc := 163) dX6_learnTest_163 rfl pf_6_55 rfl s0_77 rfl rfl nf_77_12 rfl ?_
        refine fr_goto (tg := 217) (pc := 166) dX6_learnTest_166 rfl ?_
        exact fr_vret (pc := 217) dX6_learnTest_217 rfl hq
    · refine fr_iconst (pc := 16) dX8_isHeld_16 (by decide) ?_
      refine fr_iret (pc := 17) dX8_isHeld_17 (Or.inr (Or.inl ⟨rfl, Or.inl rfl⟩)) ?_
      refine fr_ifcT (tg := 169) (pc := 140) dX6_learnTest_140 rfl rfl ?_
      refine fr_aload_n (pc := 169) dX6_learnTest_169 rfl rfl ?_
      refine fr_getr (a := 77) (pc := 170) dX6_learnTest_170 rfl pf_6_24 s0_77 rfl rf_77_7 ?_
      refine fr_iload_n (pc := 173) dX6_learnTest_173 rfl rfl ?_
      refine fr_baload (a := 82) (v := gI M 82 l1) (pc := 174) dX6_learnTest_174 rfl s0_82 hb5 (Or.inr rfl) rfl ?_
      refine fr_ifc_eq (tg := 191) (pc := 175) dX6_learnTest_175 rfl hq (fun hc8 hq => ?_) (fun hc8 hq => ?_)
      · refine fr_aload_n (pc := 191) dX6_learnTest_191 rfl rfl ?_
        refine fr_dup (pc := 192) dX6_learnTest_192 pm_t2 ?_
        refine fr_getf (a := 77) (i := 11) (v := gI M 77 11) (t := 0) (pc := 193) dX6_learnTest_193 rfl pf_6_52 rfl s0_77 rfl rfl ?_
        refine fr_iconst (pc := 196) dX6_learnTest_196 (by decide) ?_
        refine fr_iadd (z := w32 ((gI M 77 11) + 1)) (pc := 197) dX6_learnTest_197 rfl ?_
        refine fr_put (a := 77) (i := 11) (pc := 198) dX6_learnTest_198 rfl pf_6_52 rfl s0_77 rfl rfl nf_77_11 rfl ?_
        refine fr_aload_n (pc := 201) dX6_learnTest_201 rfl rfl ?_
        refine fr_dup (pc := 202) dX6_learnTest_202 pm_t2 ?_
        refine fr_getf (a := 77) (i := 13) (v := gI M 77 13) (t := 1) (pc := 203) dX6_learnTest_203 rfl pf_6_60 rfl s0_77 rfl (gI_nf _ _ (by decide)) ?_
        refine fr_aload_n (pc := 206) dX6_learnTest_206 rfl rfl ?_
        refine fr_getr (a := 77) (pc := 207) dX6_learnTest_207 rfl pf_6_44 s0_77 rfl rf_77_2 ?_
        refine fr_getf (a := 73) (i := 9) (v := gI M 73 9) (t := 1) (pc := 210) dX6_learnTest_210 rfl pf_6_101 rfl s0_73 rfl (gI_ne _ _ _ _ (by decide)) ?_
        refine fr_land (pc := 213) dX6_learnTest_213 ?_
        refine fr_put (a := 77) (i := 13) (pc := 214) dX6_learnTest_214 rfl pf_6_60 rfl s0_77 rfl rfl nf_77_13 rfl ?_
        exact fr_vret (pc := 217) dX6_learnTest_217 rfl hq
      · refine fr_aload_n (pc := 178) dX6_learnTest_178 rfl rfl ?_
        refine fr_dup (pc := 179) dX6_learnTest_179 pm_t2 ?_
        refine fr_getf (a := 77) (i := 10) (v := gI M 77 10) (t := 0) (pc := 180) dX6_learnTest_180 rfl pf_6_48 rfl s0_77 rfl rfl ?_
        refine fr_iconst (pc := 183) dX6_learnTest_183 (by decide) ?_
        refine fr_iadd (z := w32 ((gI M 77 10) + 1)) (pc := 184) dX6_learnTest_184 rfl ?_
        refine fr_put (a := 77) (i := 10) (pc := 185) dX6_learnTest_185 rfl pf_6_48 rfl s0_77 rfl rfl nf_77_10 rfl ?_
        refine fr_goto (tg := 217) (pc := 188) dX6_learnTest_188 rfl ?_
        exact fr_vret (pc := 217) dX6_learnTest_217 rfl hq
theorem k1_passes_r {a1 : Int} {M : pm_M} {K : Int → pm_M → Prop} (hq : kJ7_fill_53178 74 0 M (fun M1 => ((0 ≤ a1 ∧ a1 < 16) ∧ k1_passes_56 a1 0 0 (upI (upI (upI (upI (upI (pm_nw M1 74 (fun j => if 0 ≤ j ∧ j < 0 + 3 then M1 (20 + a1.toNat) (0 + (j - 0)) else M1 74 j)) 73 5 0) 73 6 0) 73 7 0) 73 8 0) 73 9 0) K))) : k1_passes a1 M K := by
  intro sc d hd
  refine fr_aload_n (pc := 0) dX1_passes_0 rfl rfl ?_
  refine fr_getr (a := 73) (pc := 1) dX1_passes_1 rfl pf_1_9 s0_73 rfl rf_73_2 ?_
  refine fr_iconst (pc := 4) dX1_passes_4 (by decide) ?_
  refine fr_inSV (as := [(2, 74), (0, 0)]) (rest := []) (ls' := [(2, 74), (0, 0), (9, 0), (9, 0)]) (c1 := 0) (c2 := 0) (pc := 5) dX1_passes_5 pl_1_54 rfl ⟨Nat.le_of_ble_eq_true rfl, Nat.le_of_ble_eq_true rfl⟩ rfl rfl  (by omega) rfl rfl (pm_zc _) (hq sc _ (by omega)) (fun M1 hq => ?_)
  refine fr_aload_n (pc := 8) dX1_passes_8 rfl rfl ?_
  refine fr_getr (a := 73) (pc := 9) dX1_passes_9 rfl pf_1_32 s0_73 rfl rf_73_1 ?_
  refine fr_getr (a := 18) (pc := 12) dX1_passes_12 rfl pf_1_60 s0_18 rfl rf_18_0 ?_
  refine fr_iload_n (pc := 15) dX1_passes_15 rfl rfl ?_
  obtain ⟨hb3, hq⟩ := hq
  refine fr_aaload (a := 19) (pc := 16) dX1_passes_16 rfl s0_19 hb3 rws_19 ?_
  refine fr_iconst (pc := 17) dX1_passes_17 (by decide) ?_
  refine fr_aload_n (pc := 18) dX1_passes_18 rfl rfl ?_
  refine fr_getr (a := 73) (pc := 19) dX1_passes_19 rfl pf_1_9 s0_73 rfl rf_73_2 ?_
  refine fr_iconst (pc := 22) dX1_passes_22 (by decide) ?_
  refine fr_iconst (pc := 23) dX1_passes_23 (by decide) ?_
  refine fr_cpy (sa := (19 + 1 + a1.toNat)) (sb := 74) (pc := 24) dX1_passes_24 pl_1_64 rfl (Nat.le_of_ble_eq_true rfl) rfl rfl s0_74 (pm_rowS rwS_19 hb3) nr_74 (by decide) ?_
  refine fr_aload_n (pc := 27) dX1_passes_27 rfl rfl ?_
  refine fr_iconst (pc := 28) dX1_passes_28 (by decide) ?_
  refine fr_put (a := 73) (i := 5) (pc := 29) dX1_passes_29 rfl pf_1_70 rfl s0_73 rfl rfl nf_73_5 rfl ?_
  refine fr_aload_n (pc := 32) dX1_passes_32 rfl rfl ?_
  refine fr_iconst (pc := 33) dX1_passes_33 (by decide) ?_
  refine fr_put (a := 73) (i := 6) (pc := 34) dX1_passes_34 rfl pf_1_73 rfl s0_73 rfl rfl nf_73_6 rfl ?_
  refine fr_aload_n (pc := 37) dX1_passes_37 rfl rfl ?_
  refine fr_iconst (pc := 38) dX1_passes_38 (by decide) ?_
  refine fr_put (a := 73) (i := 7) (pc := 39) dX1_passes_39 rfl pf_1_76 rfl s0_73 rfl rfl nf_73_7 rfl ?_
  refine fr_aload_n (pc := 42) dX1_passes_42 rfl rfl ?_
  refine fr_iconst (pc := 43) dX1_passes_43 (by decide) ?_
  refine fr_put (a := 73) (i := 8) (pc := 44) dX1_passes_44 rfl pf_1_79 rfl s0_73 rfl rfl nf_73_8 rfl ?_
  refine fr_aload_n (pc := 47) dX1_passes_47 rfl rfl ?_
  refine fr_lconst (pc := 48) dX1_passes_48 rfl ?_
  refine fr_put (a := 73) (i := 9) (pc := 49) dX1_passes_49 rfl pf_1_82 rfl s0_73 rfl rfl nf_73_9 rfl ?_
  refine fr_iconst (pc := 52) dX1_passes_52 (by decide) ?_
  refine fr_istore_n (ls2 := [(2, 73), (0, a1), (0, 0), (9, 0)]) (pc := 53) dX1_passes_53 rfl (Nat.le_of_ble_eq_true rfl) rfl ?_
  refine fr_iconst (pc := 54) dX1_passes_54 (by decide) ?_
  refine fr_istore_n (ls2 := [(2, 73), (0, a1), (0, 0), (0, 0)]) (pc := 55) dX1_passes_55 rfl (Nat.le_of_ble_eq_true rfl) rfl ?_
  exact hq sc d hd
theorem k1_passes_56_r {l1 l2 l3 : Int} {M : pm_M} {K : Int → pm_M → Prop} (hq : (if l3 < 6321 then (if l2 < 0 then (if gI M 73 6 = 0 then ((0 ≤ l1 ∧ l1 < 16) ∧ (if gI M 73 7 = gI M (20 + l1.toNat) 3 then K 1 M else K 0 M)) else K 0 M) else (if l2 < gI M 2 15 then ((0 ≤ l2 ∧ l2 < 60) ∧ (if gI M 3 l2 ≤ 3 then (if gI M 5 l2 = 1 then k1_passes_56 l1 (gI M 10 l2) (w32 (l3 + 1)) M K else (if gI M 73 5 < 300 then ((0 ≤ gI M 73 5 ∧ gI M 73 5 < 300) ∧ k1_workOut l2 (upI (upI (upI M 73 9 (pm_lor (gI M 73 9) (pm_lshl 1 l2))) 76 (gI M 73 5) l2) 73 5 (w32 ((gI M 73 5) + 1))) (fun r13 M12 => (if r13 = 0 then k1_passes_56 l1 (-1) (w32 (l3 + 1)) M12 K else ((0 ≤ w32 (l2 + 1) ∧ w32 (l2 + 1) < 60) ∧ k1_goOn l2 (gI M12 75 (w32 (l2 + 1))) M12 (fun r17 M16 => k1_passes_56 l1 r17 (w32 (l3 + 1)) M16 K))))) else k1_passes_56 l1 (-1) (w32 (l3 + 1)) (upI (upI M 73 9 (pm_lor (gI M 73 9) (pm_lshl 1 l2))) 73 6 2) K)) else (if gI M 73 6 = 0 then ((0 ≤ l1 ∧ l1 < 16) ∧ (if gI M 73 7 = gI M (20 + l1.toNat) 3 then K 1 M else K 0 M)) else K 0 M))) else (if gI M 73 6 = 0 then ((0 ≤ l1 ∧ l1 < 16) ∧ (if gI M 73 7 = gI M (20 + l1.toNat) 3 then K 1 M else K 0 M)) else K 0 M))) else (if gI M 73 6 = 0 then ((0 ≤ l1 ∧ l1 < 16) ∧ (if gI M 73 7 = gI M (20 + l1.toNat) 3 then K 1 M else K 0 M)) else K 0 M))) : k1_passes_56 l1 l2 l3 M K := by
  intro sc d hd
  refine fr_iload_n (pc := 56) dX1_passes_56 rfl rfl ?_
  refine fr_sipush (pc := 57) dX1_passes_57 (by decide) ?_
  refine fr_icm_ge (tg := 184) (pc := 60) dX1_passes_60 rfl hq (fun hc1 hq => ?_) (fun hc1 hq => ?_)
  · refine fr_aload_n (pc := 63) dX1_passes_63 rfl rfl ?_
    refine fr_getr (a := 73) (pc := 64) dX1_passes_64 rfl pf_1_28 s0_73 rfl rf_73_0 ?_
    refine fr_iload_n (pc := 67) dX1_passes_67 rfl rfl ?_
    refine fr_inVI (a := 2) (as := [(0, l2)]) (rest := []) (ls' := [(2, 2), (0, l2)]) (c1 := 0) (c2 := 0) (pc := 68) dX1_passes_68 pl_1_86 rfl ⟨Nat.le_of_ble_eq_true rfl, Nat.le_of_ble_eq_true rfl⟩ rfl rfl rfl s0_2 (Nat.le_of_ble_eq_true rfl) (by omega) rfl rfl (pm_zc _) ?_ (fun y M' h => h)
    refine fr_aload_n (pc := 0) dX0_hasStatement_0 rfl rfl ?_
    refine fr_iload_n (pc := 1) dX0_hasStatement_1 rfl rfl ?_
    refine fr_inVI (a := 2) (as := [(0, l2)]) (rest := []) (ls' := [(2, 2), (0, l2)]) (c1 := 0) (c2 := 0) (pc := 2) dX0_hasStatement_2 pl_0_97 rfl ⟨Nat.le_of_ble_eq_true rfl, Nat.le_of_ble_eq_true rfl⟩ rfl rfl rfl s0_2 (Nat.le_of_ble_eq_true rfl) (by omega) rfl rfl (pm_zc _) ?_ (fun y M' h => h)
    refine fr_iload_n (pc := 0) dX0_hasNode_0 rfl rfl ?_
    refine fr_ifc_lt (tg := 16) (pc := 1) dX0_hasNode_1 rfl hq (fun hc2 hq => ?_) (fun hc2 hq => ?_)
    · refine fr_iconst (pc := 16) dX0_hasNode_16 (by decide) ?_
      refine fr_iret (pc := 17) dX0_hasNode_17 (Or.inr (Or.inl ⟨rfl, Or.inl rfl⟩)) ?_
      refine fr_ifcT (tg := 22) (pc := 5) dX0_hasStatement_5 rfl rfl ?_
      refine fr_iconst (pc := 22) dX0_hasStatement_22 (by decide) ?_
      refine fr_iret (pc := 23) dX0_hasStatement_23 (Or.inr (Or.inl ⟨rfl, Or.inl rfl⟩)) ?_
      refine fr_ifcT (tg := 184) (pc := 71) dX1_passes_71 rfl rfl ?_
      refine fr_aload_n (pc := 184) dX1_passes_184 rfl rfl ?_
      refine fr_getf (a := 73) (i := 6) (v := gI M 73 6) (t := 0) (pc := 185) dX1_passes_185 rfl pf_1_73 rfl s0_73 rfl rfl ?_
      refine fr_ifc_ne (tg := 213) (pc := 188) dX1_passes_188 rfl hq (fun hc3 hq => ?_) (fun hc3 hq => ?_)
      · refine fr_aload_n (pc := 191) dX1_passes_191 rfl rfl ?_
        refine fr_getf (a := 73) (i := 7) (v := gI M 73 7) (t := 0) (pc := 192) dX1_passes_192 rfl pf_1_76 rfl s0_73 rfl rfl ?_
        refine fr_aload_n (pc := 195) dX1_passes_195 rfl rfl ?_
        refine fr_getr (a := 73) (pc := 196) dX1_passes_196 rfl pf_1_32 s0_73 rfl rf_73_1 ?_
        refine fr_getr (a := 18) (pc := 199) dX1_passes_199 rfl pf_1_60 s0_18 rfl rf_18_0 ?_
        refine fr_iload_n (pc := 202) dX1_passes_202 rfl rfl ?_
        obtain ⟨hb4, hq⟩ := hq
        refine fr_aaload (a := 19) (pc := 203) dX1_passes_203 rfl s0_19 hb4 rws_19 ?_
        refine fr_iconst (pc := 204) dX1_passes_204 (by decide) ?_
        refine fr_iaload (a := (19 + 1 + l1.toNat)) (v := gI M (20 + l1.toNat) 3) (pc := 205) dX1_passes_205 rfl (pm_rowS rwS_19 hb4) (by decide) rfl ?_
        refine fr_icm_ne (tg := 213) (pc := 206) dX1_passes_206 rfl hq (fun hc5 hq => ?_) (fun hc5 hq => ?_)
        · refine fr_iconst (pc := 209) dX1_passes_209 (by decide) ?_
          refine fr_goto (tg := 214) (pc := 210) dX1_passes_210 rfl ?_
          exact fr_iret (pc := 214) dX1_passes_214 (Or.inr (Or.inl ⟨rfl, Or.inr rfl⟩)) hq
        · refine fr_iconst (pc := 213) dX1_passes_213 (by decide) ?_
          exact fr_iret (pc := 214) dX1_passes_214 (Or.inr (Or.inl ⟨rfl, Or.inl rfl⟩)) hq
      · refine fr_iconst (pc := 213) dX1_passes_213 (by decide) ?_
        exact fr_iret (pc := 214) dX1_passes_214 (Or.inr (Or.inl ⟨rfl, Or.inl rfl⟩)) hq
    · refine fr_iload_n (pc := 4) dX0_hasNode_4 rfl rfl ?_
      refine fr_aload_n (pc := 5) dX0_hasNode_5 rfl rfl ?_
      refine fr_getf (a := 2) (i := 15) (v := gI M 2 15) (t := 0) (pc := 6) dX0_hasNode_6 rfl pf_0_57 rfl s0_2 rfl rfl ?_
      refine fr_icm_ge (tg := 16) (pc := 9) dX0_hasNode_9 rfl hq (fun hc6 hq => ?_) (fun hc6 hq => ?_)
      · refine fr_iconst (pc := 12) dX0_hasNode_12 (by decide) ?_
        refine fr_goto (tg := 17) (pc := 13) dX0_hasNode_13 rfl ?_
        refine fr_iret (pc := 17) dX0_hasNode_17 (Or.inr (Or.inl ⟨rfl, Or.inr rfl⟩)) ?_
        refine fr_ifcF (tg := 22) (pc := 5) dX0_hasStatement_5 rfl rfl ?_
        refine fr_aload_n (pc := 8) dX0_hasStatement_8 rfl rfl ?_
        refine fr_getr (a := 2) (pc := 9) dX0_hasStatement_9 rfl pf_0_9 s0_2 rfl rf_2_0 ?_
        refine fr_iload_n (pc := 12) dX0_hasStatement_12 rfl rfl ?_
        obtain ⟨hb7, hq⟩ := hq
        refine fr_iaload (a := 3) (v := gI M 3 l2) (pc := 13) dX0_hasStatement_13 rfl s0_3 hb7 rfl ?_
        refine fr_iconst (pc := 14) dX0_hasStatement_14 (by decide) ?_
        refine fr_icm_gt (tg := 22) (pc := 15) dX0_hasStatement_15 rfl hq (fun hc8 hq => ?_) (fun hc8 hq => ?_)
        · refine fr_iconst (pc := 18) dX0_hasStatement_18 (by decide) ?_
          refine fr_goto (tg := 23) (pc := 19) dX0_hasStatement_19 rfl ?_
          refine fr_iret (pc := 23) dX0_hasStatement_23 (Or.inr (Or.inl ⟨rfl, Or.inr rfl⟩)) ?_
          refine fr_ifcF (tg := 184) (pc := 71) dX1_passes_71 rfl rfl ?_
          refine fr_aload_n (pc := 74) dX1_passes_74 rfl rfl ?_
          refine fr_getr (a := 73) (pc := 75) dX1_passes_75 rfl pf_1_28 s0_73 rfl rf_73_0 ?_
          refine fr_getr (a := 2) (pc := 78) dX1_passes_78 rfl pf_1_91 s0_2 rfl rf_2_2 ?_
          refine fr_iload_n (pc := 81) dX1_passes_81 rfl rfl ?_
          refine fr_iaload (a := 5) (v := gI M 5 l2) (pc := 82) dX1_passes_82 rfl s0_5 hb7 rfl ?_
          refine fr_iconst (pc := 83) dX1_passes_83 (by decide) ?_
          refine fr_icm_ne (tg := 100) (pc := 84) dX1_passes_84 rfl hq (fun hc9 hq => ?_) (fun hc9 hq => ?_)
          · refine fr_aload_n (pc := 87) dX1_passes_87 rfl rfl ?_
            refine fr_getr (a := 73) (pc := 88) dX1_passes_88 rfl pf_1_28 s0_73 rfl rf_73_0 ?_
            refine fr_getr (a := 2) (pc := 91) dX1_passes_91 rfl pf_1_94 s0_2 rfl rf_2_7 ?_
            refine fr_iload_n (pc := 94) dX1_passes_94 rfl rfl ?_
            refine fr_iaload (a := 10) (v := gI M 10 l2) (pc := 95) dX1_passes_95 rfl s0_10 hb7 rfl ?_
            refine fr_istore_n (ls2 := [(2, 73), (0, l1), (0, gI M 10 l2), (0, l3)]) (pc := 96) dX1_passes_96 rfl (Nat.le_of_ble_eq_true rfl) rfl ?_
            refine fr_goto (tg := 178) (pc := 97) dX1_passes_97 rfl ?_
            refine fr_iinc (z := w32 (l3 + 1)) (ls2 := [(2, 73), (0, l1), (0, gI M 10 l2), (0, w32 (l3 + 1))]) (pc := 178) dX1_passes_178 (Nat.le_of_ble_eq_true rfl) rfl rfl rfl ?_
            refine fr_goto (tg := 56) (pc := 181) dX1_passes_181 rfl ?_
            exact hq sc d hd
          · refine fr_aload_n (pc := 100) dX1_passes_100 rfl rfl ?_
            refine fr_dup (pc := 101) dX1_passes_101 pm_t2 ?_
            refine fr_getf (a := 73) (i := 9) (v := gI M 73 9) (t := 1) (pc := 102) dX1_passes_102 rfl pf_1_82 rfl s0_73 rfl rfl ?_
            refine fr_lconst (pc := 105) dX1_passes_105 rfl ?_
            refine fr_iload_n (pc := 106) dX1_passes_106 rfl rfl ?_
            refine fr_lshl (pc := 107) dX1_passes_107 ?_
            refine fr_lor (pc := 108) dX1_passes_108 ?_
            refine fr_put (a := 73) (i := 9) (pc := 109) dX1_passes_109 rfl pf_1_82 rfl s0_73 rfl rfl nf_73_9 rfl ?_
            refine fr_aload_n (pc := 112) dX1_passes_112 rfl rfl ?_
            refine fr_getf (a := 73) (i := 5) (v := gI M 73 5) (t := 0) (pc := 113) dX1_passes_113 rfl pf_1_70 rfl s0_73 rfl (gI_nf _ _ (by decide)) ?_
            refine fr_sipush (pc := 116) dX1_passes_116 (by decide) ?_
            refine fr_icm_lt (tg := 132) (pc := 119) dX1_passes_119 rfl hq (fun hc10 hq => ?_) (fun hc10 hq => ?_)
            · refine fr_aload_n (pc := 132) dX1_passes_132 rfl rfl ?_
              refine fr_getr (a := 73) (pc := 133) dX1_passes_133 rfl pf_1_18 s0_73 rfl rf_73_4 ?_
              refine fr_aload_n (pc := 136) dX1_passes_136 rfl rfl ?_
              refine fr_getf (a := 73) (i := 5) (v := gI M 73 5) (t := 0) (pc := 137) dX1_passes_137 rfl pf_1_70 rfl s0_73 rfl (gI_nf _ _ (by decide)) ?_
              refine fr_iload_n (pc := 140) dX1_passes_140 rfl rfl ?_
              obtain ⟨hb11, hq⟩ := hq
              refine fr_iastore (a := 76) (pc := 141) dX1_passes_141 rfl s0_76 hb11 nr_76 ?_
              refine fr_aload_n (pc := 142) dX1_passes_142 rfl rfl ?_
              refine fr_dup (pc := 143) dX1_passes_143 pm_t2 ?_
              refine fr_getf (a := 73) (i := 5) (v := gI M 73 5) (t := 0) (pc := 144) dX1_passes_144 rfl pf_1_70 rfl s0_73 rfl ((gI_ne _ _ _ _ (by decide)).trans (gI_nf _ _ (by decide))) ?_
              refine fr_iconst (pc := 147) dX1_passes_147 (by decide) ?_
              refine fr_iadd (z := w32 ((gI M 73 5) + 1)) (pc := 148) dX1_passes_148 rfl ?_
              refine fr_put (a := 73) (i := 5) (pc := 149) dX1_passes_149 rfl pf_1_70 rfl s0_73 rfl rfl nf_73_5 rfl ?_
              refine fr_aload_n (pc := 152) dX1_passes_152 rfl rfl ?_
              refine fr_iload_n (pc := 153) dX1_passes_153 rfl rfl ?_
              refine fr_inVI (a := 73) (as := [(0, l2)]) (rest := []) (ls' := [(2, 73), (0, l2), (9, 0), (9, 0), (9, 0), (9, 0), (9, 0)]) (c1 := 0) (c2 := 0) (pc := 154) dX1_passes_154 pl_1_97 rfl ⟨Nat.le_of_ble_eq_true rfl, Nat.le_of_ble_eq_true rfl⟩ rfl rfl rfl s0_73 (Nat.le_of_ble_eq_true rfl) (by omega) rfl rfl (pm_zc _) (hq sc _ (by omega)) (fun r13 M12 hq => ?_)
              refine fr_ifc_eq (tg := 176) (pc := 157) dX1_passes_157 rfl hq (fun hc14 hq => ?_) (fun hc14 hq => ?_)
              · refine fr_iconst (pc := 176) dX1_passes_176 (by decide) ?_
                refine fr_istore_n (ls2 := [(2, 73), (0, l1), (0, (-1)), (0, l3)]) (pc := 177) dX1_passes_177 rfl (Nat.le_of_ble_eq_true rfl) rfl ?_
                refine fr_iinc (z := w32 (l3 + 1)) (ls2 := [(2, 73), (0, l1), (0, (-1)), (0, w32 (l3 + 1))]) (pc := 178) dX1_passes_178 (Nat.le_of_ble_eq_true rfl) rfl rfl rfl ?_
                refine fr_goto (tg := 56) (pc := 181) dX1_passes_181 rfl ?_
                exact hq sc d hd
              · refine fr_aload_n (pc := 160) dX1_passes_160 rfl rfl ?_
                refine fr_iload_n (pc := 161) dX1_passes_161 rfl rfl ?_
                refine fr_aload_n (pc := 162) dX1_passes_162 rfl rfl ?_
                refine fr_getr (a := 73) (pc := 163) dX1_passes_163 rfl pf_1_15 s0_73 rfl rf_73_3 ?_
                refine fr_iload_n (pc := 166) dX1_passes_166 rfl rfl ?_
                refine fr_iconst (pc := 167) dX1_passes_167 (by decide) ?_
                refine fr_iadd (z := w32 (l2 + 1)) (pc := 168) dX1_passes_168 rfl ?_
                obtain ⟨hb15, hq⟩ := hq
                refine fr_iaload (a := 75) (v := gI M12 75 (w32 (l2 + 1))) (pc := 169) dX1_passes_169 rfl s0_75 hb15 rfl ?_
                refine fr_inVI (a := 73) (as := [(0, l2), (0, gI M12 75 (w32 (l2 + 1)))]) (rest := []) (ls' := [(2, 73), (0, l2), (0, gI M12 75 (w32 (l2 + 1)))]) (c1 := 0) (c2 := 0) (pc := 170) dX1_passes_170 pl_1_100 rfl ⟨Nat.le_of_ble_eq_true rfl, Nat.le_of_ble_eq_true rfl⟩ rfl rfl rfl s0_73 (Nat.le_of_ble_eq_true rfl) (by omega) rfl rfl (pm_zc _) (hq sc _ (by omega)) (fun r17 M16 hq => ?_)
                refine fr_goto (tg := 177) (pc := 173) dX1_passes_173 rfl ?_
                refine fr_istore_n (ls2 := [(2, 73), (0, l1), (0, r17), (0, l3)]) (pc := 177) dX1_passes_177 rfl (Nat.le_of_ble_eq_true rfl) rfl ?_
                refine fr_iinc (z := w32 (l3 + 1)) (ls2 := [(2, 73), (0, l1), (0, r17), (0, w32 (l3 + 1))]) (pc := 178) dX1_passes_178 (Nat.le_of_ble_eq_true rfl) rfl rfl rfl ?_
                refine fr_goto (tg := 56) (pc := 181) dX1_passes_181 rfl ?_
                exact hq sc d hd
            · refine fr_aload_n (pc := 122) dX1_passes_122 rfl rfl ?_
              refine fr_iconst (pc := 123) dX1_passes_123 (by decide) ?_
              refine fr_put (a := 73) (i := 6) (pc := 124) dX1_passes_124 rfl pf_1_73 rfl s0_73 rfl rfl nf_73_6 rfl ?_
              refine fr_iconst (pc := 127) dX1_passes_127 (by decide) ?_
              refine fr_istore_n (ls2 := [(2, 73), (0, l1), (0, (-1)), (0, l3)]) (pc := 128) dX1_passes_128 rfl (Nat.le_of_ble_eq_true rfl) rfl ?_
              refine fr_goto (tg := 178) (pc := 129) dX1_passes_129 rfl ?_
              refine fr_iinc (z := w32 (l3 + 1)) (ls2 := [(2, 73), (0, l1), (0, (-1)), (0, w32 (l3 + 1))]) (pc := 178) dX1_passes_178 (Nat.le_of_ble_eq_true rfl) rfl rfl rfl ?_
              refine fr_goto (tg := 56) (pc := 181) dX1_passes_181 rfl ?_
              exact hq sc d hd
        · refine fr_iconst (pc := 22) dX0_hasStatement_22 (by decide) ?_
          refine fr_iret (pc := 23) dX0_hasStatement_23 (Or.inr (Or.inl ⟨rfl, Or.inl rfl⟩)) ?_
          refine fr_ifcT (tg := 184) (pc := 71) dX1_passes_71 rfl rfl ?_
          refine fr_aload_n (pc := 184) dX1_passes_184 rfl rfl ?_
          refine fr_getf (a := 73) (i := 6) (v := gI M 73 6) (t := 0) (pc := 185) dX1_passes_185 rfl pf_1_73 rfl s0_73 rfl rfl ?_
          refine fr_ifc_ne (tg := 213) (pc := 188) dX1_passes_188 rfl hq (fun hc18 hq => ?_) (fun hc18 hq => ?_)
          · refine fr_aload_n (pc := 191) dX1_passes_191 rfl rfl ?_
            refine fr_getf (a := 73) (i := 7) (v := gI M 73 7) (t := 0) (pc := 192) dX1_passes_192 rfl pf_1_76 rfl s0_73 rfl rfl ?_
            refine fr_aload_n (pc := 195) dX1_passes_195 rfl rfl ?_
            refine fr_getr (a := 73) (pc := 196) dX1_passes_196 rfl pf_1_32 s0_73 rfl rf_73_1 ?_
            refine fr_getr (a := 18) (pc := 199) dX1_passes_199 rfl pf_1_60 s0_18 rfl rf_18_0 ?_
            refine fr_iload_n (pc := 202) dX1_passes_202 rfl rfl ?_
            obtain ⟨hb19, hq⟩ := hq
            refine fr_aaload (a := 19) (pc := 203) dX1_passes_203 rfl s0_19 hb19 rws_19 ?_
            refine fr_iconst (pc := 204) dX1_passes_204 (by decide) ?_
            refine fr_iaload (a := (19 + 1 + l1.toNat)) (v := gI M (20 + l1.toNat) 3) (pc := 205) dX1_passes_205 rfl (pm_rowS rwS_19 hb19) (by decide) rfl ?_
            refine fr_icm_ne (tg := 213) (pc := 206) dX1_passes_206 rfl hq (fun hc20 hq => ?_) (fun hc20 hq => ?_)
            · refine fr_iconst (pc := 209) dX1_passes_209 (by decide) ?_
              refine fr_goto (tg := 214) (pc := 210) dX1_passes_210 rfl ?_
              exact fr_iret (pc := 214) dX1_passes_214 (Or.inr (Or.inl ⟨rfl, Or.inr rfl⟩)) hq
            · refine fr_iconst (pc := 213) dX1_passes_213 (by decide) ?_
              exact fr_iret (pc := 214) dX1_passes_214 (Or.inr (Or.inl ⟨rfl, Or.inl rfl⟩)) hq
          · refine fr_iconst (pc := 213) dX1_passes_213 (by decide) ?_
            exact fr_iret (pc := 214) dX1_passes_214 (Or.inr (Or.inl ⟨rfl, Or.inl rfl⟩)) hq
      · refine fr_iconst (pc := 16) dX0_hasNode_16 (by decide) ?_
        refine fr_iret (pc := 17) dX0_hasNode_17 (Or.inr (Or.inl ⟨rfl, Or.inl rfl⟩)) ?_
        refine fr_ifcT (tg := 22) (pc := 5) dX0_hasStatement_5 rfl rfl ?_
        refine fr_iconst (pc := 22) dX0_hasStatement_22 (by decide) ?_
        refine fr_iret (pc := 23) dX0_hasStatement_23 (Or.inr (Or.inl ⟨rfl, Or.inl rfl⟩)) ?_
        refine fr_ifcT (tg := 184) (pc := 71) dX1_passes_71 rfl rfl ?_
        refine fr_aload_n (pc := 184) dX1_passes_184 rfl rfl ?_
        refine fr_getf (a := 73) (i := 6) (v := gI M 73 6) (t := 0) (pc := 185) dX1_passes_185 rfl pf_1_73 rfl s0_73 rfl rfl ?_
        refine fr_ifc_ne (tg := 213) (pc := 188) dX1_passes_188 rfl hq (fun hc21 hq => ?_) (fun hc21 hq => ?_)
        · refine fr_aload_n (pc := 191) dX1_passes_191 rfl rfl ?_
          refine fr_getf (a := 73) (i := 7) (v := gI M 73 7) (t := 0) (pc := 192) dX1_passes_192 rfl pf_1_76 rfl s0_73 rfl rfl ?_
          refine fr_aload_n (pc := 195) dX1_passes_195 rfl rfl ?_
          refine fr_getr (a := 73) (pc := 196) dX1_passes_196 rfl pf_1_32 s0_73 rfl rf_73_1 ?_
          refine fr_getr (a := 18) (pc := 199) dX1_passes_199 rfl pf_1_60 s0_18 rfl rf_18_0 ?_
          refine fr_iload_n (pc := 202) dX1_passes_202 rfl rfl ?_
          obtain ⟨hb22, hq⟩ := hq
          refine fr_aaload (a := 19) (pc := 203) dX1_passes_203 rfl s0_19 hb22 rws_19 ?_
          refine fr_iconst (pc := 204) dX1_passes_204 (by decide) ?_
          refine fr_iaload (a := (19 + 1 + l1.toNat)) (v := gI M (20 + l1.toNat) 3) (pc := 205) dX1_passes_205 rfl (pm_rowS rwS_19 hb22) (by decide) rfl ?_
          refine fr_icm_ne (tg := 213) (pc := 206) dX1_passes_206 rfl hq (fun hc23 hq => ?_) (fun hc23 hq => ?_)
          · refine fr_iconst (pc := 209) dX1_passes_209 (by decide) ?_
            refine fr_goto (tg := 214) (pc := 210) dX1_passes_210 rfl ?_
            exact fr_iret (pc := 214) dX1_passes_214 (Or.inr (Or.inl ⟨rfl, Or.inr rfl⟩)) hq
          · refine fr_iconst (pc := 213) dX1_passes_213 (by decide) ?_
            exact fr_iret (pc := 214) dX1_passes_214 (Or.inr (Or.inl ⟨rfl, Or.inl rfl⟩)) hq
        · refine fr_iconst (pc := 213) dX1_passes_213 (by decide) ?_
          exact fr_iret (pc := 214) dX1_passes_214 (Or.inr (Or.inl ⟨rfl, Or.inl rfl⟩)) hq
  · refine fr_aload_n (pc := 184) dX1_passes_184 rfl rfl ?_
    refine fr_getf (a := 73) (i := 6) (v := gI M 73 6) (t := 0) (pc := 185) dX1_passes_185 rfl pf_1_73 rfl s0_73 rfl rfl ?_
    refine fr_ifc_ne (tg := 213) (pc := 188) dX1_passes_188 rfl hq (fun hc24 hq => ?_) (fun hc24 hq => ?_)
    · refine fr_aload_n (pc := 191) dX1_passes_191 rfl rfl ?_
      refine fr_getf (a := 73) (i := 7) (v := gI M 73 7) (t := 0) (pc := 192) dX1_passes_192 rfl pf_1_76 rfl s0_73 rfl rfl ?_
      refine fr_aload_n (pc := 195) dX1_passes_195 rfl rfl ?_
      refine fr_getr (a := 73) (pc := 196) dX1_passes_196 rfl pf_1_32 s0_73 rfl rf_73_1 ?_
      refine fr_getr (a := 18) (pc := 199) dX1_passes_199 rfl pf_1_60 s0_18 rfl rf_18_0 ?_
      refine fr_iload_n (pc := 202) dX1_passes_202 rfl rfl ?_
      obtain ⟨hb25, hq⟩ := hq
      refine fr_aaload (a := 19) (pc := 203) dX1_passes_203 rfl s0_19 hb25 rws_19 ?_
      refine fr_iconst (pc := 204) dX1_passes_204 (by decide) ?_
      refine fr_iaload (a := (19 + 1 + l1.toNat)) (v := gI M (20 + l1.toNat) 3) (pc := 205) dX1_passes_205 rfl (pm_rowS rwS_19 hb25) (by decide) rfl ?_
      refine fr_icm_ne (tg := 213) (pc := 206) dX1_passes_206 rfl hq (fun hc26 hq => ?_) (fun hc26 hq => ?_)
      · refine fr_iconst (pc := 209) dX1_passes_209 (by decide) ?_
        refine fr_goto (tg := 214) (pc := 210) dX1_passes_210 rfl ?_
        exact fr_iret (pc := 214) dX1_passes_214 (Or.inr (Or.inl ⟨rfl, Or.inr rfl⟩)) hq
      · refine fr_iconst (pc := 213) dX1_passes_213 (by decide) ?_
        exact fr_iret (pc := 214) dX1_passes_214 (Or.inr (Or.inl ⟨rfl, Or.inl rfl⟩)) hq
    · refine fr_iconst (pc := 213) dX1_passes_213 (by decide) ?_
      exact fr_iret (pc := 214) dX1_passes_214 (Or.inr (Or.inl ⟨rfl, Or.inl rfl⟩)) hq
theorem k1_workOut_r {a1 : Int} {M : pm_M} {K : Int → pm_M → Prop} (hq : ((0 ≤ a1 ∧ a1 < 60) ∧ k1_workOut_10 a1 (gI M 9 a1) M K)) : k1_workOut a1 M K := by
  intro sc d hd
  refine fr_aload_n (pc := 0) dX1_workOut_0 rfl rfl ?_
  refine fr_getr (a := 73) (pc := 1) dX1_workOut_1 rfl pf_1_28 s0_73 rfl rf_73_0 ?_
  refine fr_getr (a := 2) (pc := 4) dX1_workOut_4 rfl pf_1_124 s0_2 rfl rf_2_6 ?_
  refine fr_iload_n (pc := 7) dX1_workOut_7 rfl rfl ?_
  obtain ⟨hb1, hq⟩ := hq
  refine fr_iaload (a := 9) (v := gI M 9 a1) (pc := 8) dX1_workOut_8 rfl s0_9 hb1 rfl ?_
  refine fr_istore_n (ls2 := [(2, 73), (0, a1), (0, gI M 9 a1), (9, 0), (9, 0), (9, 0), (9, 0)]) (pc := 9) dX1_workOut_9 rfl (Nat.le_of_ble_eq_true rfl) rfl ?_
  exact hq sc d hd (9, 0) pm_t9 (9, 0) pm_t9 (9, 0) pm_t9 (9, 0) pm_t9
theorem k1_workOut_10_r {l1 l2 : Int} {M : pm_M} {K : Int → pm_M → Prop} (hq : (if l2 ≤ l1 then K 1 M else ((0 ≤ l2 ∧ l2 < 60) ∧ (if gI M 3 l2 = 4 then k1_workOut_10 l1 (w32 (l2 + (-1))) (upI M 75 l2 (gI M 4 l2)) K else (if gI M 3 l2 = 5 then ((0 ≤ gI M 4 l2 ∧ gI M 4 l2 < 9) ∧ k1_workOut_10 l1 (w32 (l2 + (-1))) (upI M 75 l2 (gI M 74 (gI M 4 l2))) K) else (if gI M 3 l2 = 6 then (if gI M 5 l2 = 1 then ((0 ≤ w32 (l2 + 1) ∧ w32 (l2 + 1) < 60) ∧ k1_workOut_10 l1 (w32 (l2 + (-1))) (upI M 75 l2 (gI M 75 (w32 (l2 + 1)))) K) else ((0 ≤ w32 (l2 + 1) ∧ w32 (l2 + 1) < 60) ∧ k1_workOut_10 l1 (w32 (l2 + (-1))) (upI M 75 l2 (w32 (-(gI M 75 (w32 (l2 + 1)))))) K)) else (if gI M 5 l2 = 3 then ((0 ≤ gI M 8 l2 ∧ gI M 8 l2 < 60) ∧ ((0 ≤ w32 (l2 + 1) ∧ w32 (l2 + 1) < 60) ∧ (if gI M 75 (w32 (l2 + 1)) = 0 then (if gI M 4 l2 = 3 then K 0 (upI M 73 6 1) else (if gI M 4 l2 = 4 then K 0 (upI M 73 6 1) else k1_combined (gI M 4 l2) (gI M 75 (gI M 8 l2)) (gI M 75 (w32 (l2 + 1))) M (fun r17 M16 => k1_workOut_10 l1 (w32 (l2 + (-1))) (upI M16 75 l2 r17) K))) else k1_combined (gI M 4 l2) (gI M 75 (gI M 8 l2)) (gI M 75 (w32 (l2 + 1))) M (fun r19 M18 => k1_workOut_10 l1 (w32 (l2 + (-1))) (upI M18 75 l2 r19) K)))) else ((0 ≤ w32 (l2 + 1) ∧ w32 (l2 + 1) < 60) ∧ ((0 ≤ gI M 8 l2 ∧ gI M 8 l2 < 60) ∧ (if gI M 75 (gI M 8 l2) = 0 then (if gI M 4 l2 = 3 then K 0 (upI M 73 6 1) else (if gI M 4 l2 = 4 then K 0 (upI M 73 6 1) else k1_combined (gI M 4 l2) (gI M 75 (w32 (l2 + 1))) (gI M 75 (gI M 8 l2)) M (fun r26 M25 => k1_workOut_10 l1 (w32 (l2 + (-1))) (upI M25 75 l2 r26) K))) else k1_combined (gI M 4 l2) (gI M 75 (w32 (l2 + 1))) (gI M 75 (gI M 8 l2)) M (fun r28 M27 => k1_workOut_10 l1 (w32 (l2 + (-1))) (upI M27 75 l2 r28) K))))))))))) : k1_workOut_10 l1 l2 M K := by
  intro sc d hd z3 hz3 z4 hz4 z5 hz5 z6 hz6
  refine fr_iload_n (pc := 10) dX1_workOut_10 rfl rfl ?_
  refine fr_iload_n (pc := 11) dX1_workOut_11 rfl rfl ?_
  refine fr_icm_le (tg := 243) (pc := 12) dX1_workOut_12 rfl hq (fun hc1 hq => ?_) (fun hc1 hq => ?_)
  · refine fr_iconst (pc := 243) dX1_workOut_243 (by decide) ?_
    exact fr_iret (pc := 244) dX1_workOut_244 (Or.inr (Or.inl ⟨rfl, Or.inr rfl⟩)) hq
  · refine fr_aload_n (pc := 15) dX1_workOut_15 rfl rfl ?_
    refine fr_getr (a := 73) (pc := 16) dX1_workOut_16 rfl pf_1_28 s0_73 rfl rf_73_0 ?_
    refine fr_getr (a := 2) (pc := 19) dX1_workOut_19 rfl pf_1_107 s0_2 rfl rf_2_1 ?_
    refine fr_iload_n (pc := 22) dX1_workOut_22 rfl rfl ?_
    obtain ⟨hb2, hq⟩ := hq
    refine fr_iaload (a := 4) (v := gI M 4 l2) (pc := 23) dX1_workOut_23 rfl s0_4 hb2 rfl ?_
    refine fr_istore_n (ls2 := [(2, 73), (0, l1), (0, l2), (0, gI M 4 l2), z4, z5, z6]) (pc := 24) dX1_workOut_24 rfl (Nat.le_of_ble_eq_true rfl) rfl ?_
    refine fr_aload_n (pc := 25) dX1_workOut_25 rfl rfl ?_
    refine fr_getr (a := 73) (pc := 26) dX1_workOut_26 rfl pf_1_28 s0_73 rfl rf_73_0 ?_
    refine fr_getr (a := 2) (pc := 29) dX1_workOut_29 rfl pf_1_104 s0_2 rfl rf_2_0 ?_
    refine fr_iload_n (pc := 32) dX1_workOut_32 rfl rfl ?_
    refine fr_iaload (a := 3) (v := gI M 3 l2) (pc := 33) dX1_workOut_33 rfl s0_3 hb2 rfl ?_
    refine pm_ite hq (fun hc3 hq => ?_) (fun hc3 hq => ?_)
    · refine fr_tabV (tg := 60) (off := 26) (v := 4) (pc := 34) dX1_workOut_34 hc3 (by decide) rfl rfl ?_
      refine fr_aload_n (pc := 60) dX1_workOut_60 rfl rfl ?_
      refine fr_getr (a := 73) (pc := 61) dX1_workOut_61 rfl pf_1_15 s0_73 rfl rf_73_3 ?_
      refine fr_iload_n (pc := 64) dX1_workOut_64 rfl rfl ?_
      refine fr_iload_n (pc := 65) dX1_workOut_65 rfl rfl ?_
      refine fr_iastore (a := 75) (pc := 66) dX1_workOut_66 rfl s0_75 hb2 nr_75 ?_
      refine fr_goto (tg := 237) (pc := 67) dX1_workOut_67 rfl ?_
      refine fr_iinc (z := w32 (l2 + (-1))) (ls2 := [(2, 73), (0, l1), (0, w32 (l2 + (-1))), (0, gI M 4 l2), z4, z5, z6]) (pc := 237) dX1_workOut_237 (Nat.le_of_ble_eq_true rfl) rfl rfl rfl ?_
      refine fr_goto (tg := 10) (pc := 240) dX1_workOut_240 rfl ?_
      exact hq sc d hd (0, gI M 4 l2) pm_t0 z4 hz4 z5 hz5 z6 hz6
    · refine pm_ite hq (fun hc4 hq => ?_) (fun hc4 hq => ?_)
      · refine fr_tabV (tg := 70) (off := 36) (v := 5) (pc := 34) dX1_workOut_34 hc4 (by decide) rfl rfl ?_
        refine fr_aload_n (pc := 70) dX1_workOut_70 rfl rfl ?_
        refine fr_getr (a := 73) (pc := 71) dX1_workOut_71 rfl pf_1_15 s0_73 rfl rf_73_3 ?_
        refine fr_iload_n (pc := 74) dX1_workOut_74 rfl rfl ?_
        refine fr_aload_n (pc := 75) dX1_workOut_75 rfl rfl ?_
        refine fr_getr (a := 73) (pc := 76) dX1_workOut_76 rfl pf_1_9 s0_73 rfl rf_73_2 ?_
        refine fr_iload_n (pc := 79) dX1_workOut_79 rfl rfl ?_
        obtain ⟨hb5, hq⟩ := hq
        refine fr_iaload (a := 74) (v := gI M 74 (gI M 4 l2)) (pc := 80) dX1_workOut_80 rfl s0_74 hb5 rfl ?_
        refine fr_iastore (a := 75) (pc := 81) dX1_workOut_81 rfl s0_75 hb2 nr_75 ?_
        refine fr_goto (tg := 237) (pc := 82) dX1_workOut_82 rfl ?_
        refine fr_iinc (z := w32 (l2 + (-1))) (ls2 := [(2, 73), (0, l1), (0, w32 (l2 + (-1))), (0, gI M 4 l2), z4, z5, z6]) (pc := 237) dX1_workOut_237 (Nat.le_of_ble_eq_true rfl) rfl rfl rfl ?_
        refine fr_goto (tg := 10) (pc := 240) dX1_workOut_240 rfl ?_
        exact hq sc d hd (0, gI M 4 l2) pm_t0 z4 hz4 z5 hz5 z6 hz6
      · refine pm_ite hq (fun hc6 hq => ?_) (fun hc6 hq => ?_)
        · refine fr_tabV (tg := 85) (off := 51) (v := 6) (pc := 34) dX1_workOut_34 hc6 (by decide) rfl rfl ?_
          refine fr_aload_n (pc := 85) dX1_workOut_85 rfl rfl ?_
          refine fr_getr (a := 73) (pc := 86) dX1_workOut_86 rfl pf_1_15 s0_73 rfl rf_73_3 ?_
          refine fr_iload_n (pc := 89) dX1_workOut_89 rfl rfl ?_
          refine fr_aload_n (pc := 90) dX1_workOut_90 rfl rfl ?_
          refine fr_getr (a := 73) (pc := 91) dX1_workOut_91 rfl pf_1_28 s0_73 rfl rf_73_0 ?_
          refine fr_getr (a := 2) (pc := 94) dX1_workOut_94 rfl pf_1_91 s0_2 rfl rf_2_2 ?_
          refine fr_iload_n (pc := 97) dX1_workOut_97 rfl rfl ?_
          refine fr_iaload (a := 5) (v := gI M 5 l2) (pc := 98) dX1_workOut_98 rfl s0_5 hb2 rfl ?_
          refine fr_iconst (pc := 99) dX1_workOut_99 (by decide) ?_
          refine fr_icm_ne (tg := 114) (pc := 100) dX1_workOut_100 rfl hq (fun hc7 hq => ?_) (fun hc7 hq => ?_)
          · refine fr_aload_n (pc := 103) dX1_workOut_103 rfl rfl ?_
            refine fr_getr (a := 73) (pc := 104) dX1_workOut_104 rfl pf_1_15 s0_73 rfl rf_73_3 ?_
            refine fr_iload_n (pc := 107) dX1_workOut_107 rfl rfl ?_
            refine fr_iconst (pc := 108) dX1_workOut_108 (by decide) ?_
            refine fr_iadd (z := w32 (l2 + 1)) (pc := 109) dX1_workOut_109 rfl ?_
            obtain ⟨hb8, hq⟩ := hq
            refine fr_iaload (a := 75) (v := gI M 75 (w32 (l2 + 1))) (pc := 110) dX1_workOut_110 rfl s0_75 hb8 rfl ?_
            refine fr_goto (tg := 123) (pc := 111) dX1_workOut_111 rfl ?_
            refine fr_iastore (a := 75) (pc := 123) dX1_workOut_123 rfl s0_75 hb2 nr_75 ?_
            refine fr_goto (tg := 237) (pc := 124) dX1_workOut_124 rfl ?_
            refine fr_iinc (z := w32 (l2 + (-1))) (ls2 := [(2, 73), (0, l1), (0, w32 (l2 + (-1))), (0, gI M 4 l2), z4, z5, z6]) (pc := 237) dX1_workOut_237 (Nat.le_of_ble_eq_true rfl) rfl rfl rfl ?_
            refine fr_goto (tg := 10) (pc := 240) dX1_workOut_240 rfl ?_
            exact hq sc d hd (0, gI M 4 l2) pm_t0 z4 hz4 z5 hz5 z6 hz6
          · refine fr_aload_n (pc := 114) dX1_workOut_114 rfl rfl ?_
            refine fr_getr (a := 73) (pc := 115) dX1_workOut_115 rfl pf_1_15 s0_73 rfl rf_73_3 ?_
            refine fr_iload_n (pc := 118) dX1_workOut_118 rfl rfl ?_
            refine fr_iconst (pc := 119) dX1_workOut_119 (by decide) ?_
            refine fr_iadd (z := w32 (l2 + 1)) (pc := 120) dX1_workOut_120 rfl ?_
            obtain ⟨hb9, hq⟩ := hq
            refine fr_iaload (a := 75) (v := gI M 75 (w32 (l2 + 1))) (pc := 121) dX1_workOut_121 rfl s0_75 hb9 rfl ?_
            refine fr_ineg (z := w32 (-(gI M 75 (w32 (l2 + 1))))) (pc := 122) dX1_workOut_122 rfl ?_
            refine fr_iastore (a := 75) (pc := 123) dX1_workOut_123 rfl s0_75 hb2 nr_75 ?_
            refine fr_goto (tg := 237) (pc := 124) dX1_workOut_124 rfl ?_
            refine fr_iinc (z := w32 (l2 + (-1))) (ls2 := [(2, 73), (0, l1), (0, w32 (l2 + (-1))), (0, gI M 4 l2), z4, z5, z6]) (pc := 237) dX1_workOut_237 (Nat.le_of_ble_eq_true rfl) rfl rfl rfl ?_
            refine fr_goto (tg := 10) (pc := 240) dX1_workOut_240 rfl ?_
            exact hq sc d hd (0, gI M 4 l2) pm_t0 z4 hz4 z5 hz5 z6 hz6
        · refine fr_tableO (tg := 127) (pc := 34) dX1_workOut_34 (by omega) rfl ?_
          refine fr_aload_n (pc := 127) dX1_workOut_127 rfl rfl ?_
          refine fr_getr (a := 73) (pc := 128) dX1_workOut_128 rfl pf_1_28 s0_73 rfl rf_73_0 ?_
          refine fr_getr (a := 2) (pc := 131) dX1_workOut_131 rfl pf_1_91 s0_2 rfl rf_2_2 ?_
          refine fr_iload_n (pc := 134) dX1_workOut_134 rfl rfl ?_
          refine fr_iaload (a := 5) (v := gI M 5 l2) (pc := 135) dX1_workOut_135 rfl s0_5 hb2 rfl ?_
          refine fr_iconst (pc := 136) dX1_workOut_136 (by decide) ?_
          refine fr_icm_ne (tg := 144) (pc := 137) dX1_workOut_137 rfl hq (fun hc10 hq => ?_) (fun hc10 hq => ?_)
          · refine fr_iconst (pc := 140) dX1_workOut_140 (by decide) ?_
            refine fr_goto (tg := 145) (pc := 141) dX1_workOut_141 rfl ?_
            refine fr_istore (ls2 := [(2, 73), (0, l1), (0, l2), (0, gI M 4 l2), (0, 1), z5, z6]) (pc := 145) dX1_workOut_145 rfl (Nat.le_of_ble_eq_true rfl) rfl ?_
            refine fr_aload_n (pc := 147) dX1_workOut_147 rfl rfl ?_
            refine fr_getr (a := 73) (pc := 148) dX1_workOut_148 rfl pf_1_15 s0_73 rfl rf_73_3 ?_
            refine fr_iload (pc := 151) dX1_workOut_151 rfl rfl ?_
            refine fr_ifcF (tg := 168) (pc := 153) dX1_workOut_153 rfl rfl ?_
            refine fr_aload_n (pc := 156) dX1_workOut_156 rfl rfl ?_
            refine fr_getr (a := 73) (pc := 157) dX1_workOut_157 rfl pf_1_28 s0_73 rfl rf_73_0 ?_
            refine fr_getr (a := 2) (pc := 160) dX1_workOut_160 rfl pf_1_127 s0_2 rfl rf_2_5 ?_
            refine fr_iload_n (pc := 163) dX1_workOut_163 rfl rfl ?_
            refine fr_iaload (a := 8) (v := gI M 8 l2) (pc := 164) dX1_workOut_164 rfl s0_8 hb2 rfl ?_
            refine fr_goto (tg := 171) (pc := 165) dX1_workOut_165 rfl ?_
            obtain ⟨hb11, hq⟩ := hq
            refine fr_iaload (a := 75) (v := gI M 75 (gI M 8 l2)) (pc := 171) dX1_workOut_171 rfl s0_75 hb11 rfl ?_
            refine fr_istore (ls2 := [(2, 73), (0, l1), (0, l2), (0, gI M 4 l2), (0, 1), (0, gI M 75 (gI M 8 l2)), z6]) (pc := 172) dX1_workOut_172 rfl (Nat.le_of_ble_eq_true rfl) rfl ?_
            refine fr_aload_n (pc := 174) dX1_workOut_174 rfl rfl ?_
            refine fr_getr (a := 73) (pc := 175) dX1_workOut_175 rfl pf_1_15 s0_73 rfl rf_73_3 ?_
            refine fr_iload (pc := 178) dX1_workOut_178 rfl rfl ?_
            refine fr_ifcF (tg := 189) (pc := 180) dX1_workOut_180 rfl rfl ?_
            refine fr_iload_n (pc := 183) dX1_workOut_183 rfl rfl ?_
            refine fr_iconst (pc := 184) dX1_workOut_184 (by decide) ?_
            refine fr_iadd (z := w32 (l2 + 1)) (pc := 185) dX1_workOut_185 rfl ?_
            refine fr_goto (tg := 198) (pc := 186) dX1_workOut_186 rfl ?_
            obtain ⟨hb12, hq⟩ := hq
            refine fr_iaload (a := 75) (v := gI M 75 (w32 (l2 + 1))) (pc := 198) dX1_workOut_198 rfl s0_75 hb12 rfl ?_
            refine fr_istore (ls2 := [(2, 73), (0, l1), (0, l2), (0, gI M 4 l2), (0, 1), (0, gI M 75 (gI M 8 l2)), (0, gI M 75 (w32 (l2 + 1)))]) (pc := 199) dX1_workOut_199 rfl (Nat.le_of_ble_eq_true rfl) rfl ?_
            refine fr_iload (pc := 201) dX1_workOut_201 rfl rfl ?_
            refine fr_ifc_ne (tg := 223) (pc := 203) dX1_workOut_203 rfl hq (fun hc13 hq => ?_) (fun hc13 hq => ?_)
            · refine fr_iload_n (pc := 206) dX1_workOut_206 rfl rfl ?_
              refine fr_iconst (pc := 207) dX1_workOut_207 (by decide) ?_
              refine fr_icm_eq (tg := 216) (pc := 208) dX1_workOut_208 rfl hq (fun hc14 hq => ?_) (fun hc14 hq => ?_)
              · refine fr_aload_n (pc := 216) dX1_workOut_216 rfl rfl ?_
                refine fr_iconst (pc := 217) dX1_workOut_217 (by decide) ?_
                refine fr_put (a := 73) (i := 6) (pc := 218) dX1_workOut_218 rfl pf_1_73 rfl s0_73 rfl rfl nf_73_6 rfl ?_
                refine fr_iconst (pc := 221) dX1_workOut_221 (by decide) ?_
                exact fr_iret (pc := 222) dX1_workOut_222 (Or.inr (Or.inl ⟨rfl, Or.inl rfl⟩)) hq
              · refine fr_iload_n (pc := 211) dX1_workOut_211 rfl rfl ?_
                refine fr_iconst (pc := 212) dX1_workOut_212 (by decide) ?_
                refine fr_icm_ne (tg := 223) (pc := 213) dX1_workOut_213 rfl hq (fun hc15 hq => ?_) (fun hc15 hq => ?_)
                · refine fr_aload_n (pc := 216) dX1_workOut_216 rfl rfl ?_
                  refine fr_iconst (pc := 217) dX1_workOut_217 (by decide) ?_
                  refine fr_put (a := 73) (i := 6) (pc := 218) dX1_workOut_218 rfl pf_1_73 rfl s0_73 rfl rfl nf_73_6 rfl ?_
                  refine fr_iconst (pc := 221) dX1_workOut_221 (by decide) ?_
                  exact fr_iret (pc := 222) dX1_workOut_222 (Or.inr (Or.inl ⟨rfl, Or.inl rfl⟩)) hq
                · refine fr_aload_n (pc := 223) dX1_workOut_223 rfl rfl ?_
                  refine fr_getr (a := 73) (pc := 224) dX1_workOut_224 rfl pf_1_15 s0_73 rfl rf_73_3 ?_
                  refine fr_iload_n (pc := 227) dX1_workOut_227 rfl rfl ?_
                  refine fr_iload_n (pc := 228) dX1_workOut_228 rfl rfl ?_
                  refine fr_iload (pc := 229) dX1_workOut_229 rfl rfl ?_
                  refine fr_iload (pc := 231) dX1_workOut_231 rfl rfl ?_
                  refine fr_inSI (as := [(0, gI M 4 l2), (0, gI M 75 (gI M 8 l2)), (0, gI M 75 (w32 (l2 + 1)))]) (rest := [(0, l2), (2, 75)]) (ls' := [(0, gI M 4 l2), (0, gI M 75 (gI M 8 l2)), (0, gI M 75 (w32 (l2 + 1)))]) (c1 := 0) (c2 := 0) (pc := 233) dX1_workOut_233 pl_1_130 rfl ⟨Nat.le_of_ble_eq_true rfl, Nat.le_of_ble_eq_true rfl⟩ rfl rfl  (by omega) rfl rfl (pm_zc _) (hq sc _ (by omega)) (fun r17 M16 hq => ?_)
                  refine fr_iastore (a := 75) (pc := 236) dX1_workOut_236 rfl s0_75 hb2 nr_75 ?_
                  refine fr_iinc (z := w32 (l2 + (-1))) (ls2 := [(2, 73), (0, l1), (0, w32 (l2 + (-1))), (0, gI M 4 l2), (0, 1), (0, gI M 75 (gI M 8 l2)), (0, gI M 75 (w32 (l2 + 1)))]) (pc := 237) dX1_workOut_237 (Nat.le_of_ble_eq_true rfl) rfl rfl rfl ?_
                  refine fr_goto (tg := 10) (pc := 240) dX1_workOut_240 rfl ?_
                  exact hq sc d hd (0, gI M 4 l2) pm_t0 (0, 1) pm_t0 (0, gI M 75 (gI M 8 l2)) pm_t0 (0, gI M 75 (w32 (l2 + 1))) pm_t0
            · refine fr_aload_n (pc := 223) dX1_workOut_223 rfl rfl ?_
              refine fr_getr (a := 73) (pc := 224) dX1_workOut_224 rfl pf_1_15 s0_73 rfl rf_73_3 ?_
              refine fr_iload_n (pc := 227) dX1_workOut_227 rfl rfl ?_
              refine fr_iload_n (pc := 228) dX1_workOut_228 rfl rfl ?_
              refine fr_iload (pc := 229) dX1_workOut_229 rfl rfl ?_
              refine fr_iload (pc := 231) dX1_workOut_231 rfl rfl ?_
              refine fr_inSI (as := [(0, gI M 4 l2), (0, gI M 75 (gI M 8 l2)), (0, gI M 75 (w32 (l2 + 1)))]) (rest := [(0, l2), (2, 75)]) (ls' := [(0, gI M 4 l2), (0, gI M 75 (gI M 8 l2)), (0, gI M 75 (w32 (l2 + 1)))]) (c1 := 0) (c2 := 0) (pc := 233) dX1_workOut_233 pl_1_130 rfl ⟨Nat.le_of_ble_eq_true rfl, Nat.le_of_ble_eq_true rfl⟩ rfl rfl  (by omega) rfl rfl (pm_zc _) (hq sc _ (by omega)) (fun r19 M18 hq => ?_)
              refine fr_iastore (a := 75) (pc := 236) dX1_workOut_236 rfl s0_75 hb2 nr_75 ?_
              refine fr_iinc (z := w32 (l2 + (-1))) (ls2 := [(2, 73), (0, l1), (0, w32 (l2 + (-1))), (0, gI M 4 l2), (0, 1), (0, gI M 75 (gI M 8 l2)), (0, gI M 75 (w32 (l2 + 1)))]) (pc := 237) dX1_workOut_237 (Nat.le_of_ble_eq_true rfl) rfl rfl rfl ?_
              refine fr_goto (tg := 10) (pc := 240) dX1_workOut_240 rfl ?_
              exact hq sc d hd (0, gI M 4 l2) pm_t0 (0, 1) pm_t0 (0, gI M 75 (gI M 8 l2)) pm_t0 (0, gI M 75 (w32 (l2 + 1))) pm_t0
          · refine fr_iconst (pc := 144) dX1_workOut_144 (by decide) ?_
            refine fr_istore (ls2 := [(2, 73), (0, l1), (0, l2), (0, gI M 4 l2), (0, 0), z5, z6]) (pc := 145) dX1_workOut_145 rfl (Nat.le_of_ble_eq_true rfl) rfl ?_
            refine fr_aload_n (pc := 147) dX1_workOut_147 rfl rfl ?_
            refine fr_getr (a := 73) (pc := 148) dX1_workOut_148 rfl pf_1_15 s0_73 rfl rf_73_3 ?_
            refine fr_iload (pc := 151) dX1_workOut_151 rfl rfl ?_
            refine fr_ifcT (tg := 168) (pc := 153) dX1_workOut_153 rfl rfl ?_
            refine fr_iload_n (pc := 168) dX1_workOut_168 rfl rfl ?_
            refine fr_iconst (pc := 169) dX1_workOut_169 (by decide) ?_
            refine fr_iadd (z := w32 (l2 + 1)) (pc := 170) dX1_workOut_170 rfl ?_
            obtain ⟨hb20, hq⟩ := hq
            refine fr_iaload (a := 75) (v := gI M 75 (w32 (l2 + 1))) (pc := 171) dX1_workOut_171 rfl s0_75 hb20 rfl ?_
            refine fr_istore (ls2 := [(2, 73), (0, l1), (0, l2), (0, gI M 4 l2), (0, 0), (0, gI M 75 (w32 (l2 + 1))), z6]) (pc := 172) dX1_workOut_172 rfl (Nat.le_of_ble_eq_true rfl) rfl ?_
            refine fr_aload_n (pc := 174) dX1_workOut_174 rfl rfl ?_
            refine fr_getr (a := 73) (pc := 175) dX1_workOut_175 rfl pf_1_15 s0_73 rfl rf_73_3 ?_
            refine fr_iload (pc := 178) dX1_workOut_178 rfl rfl ?_
            refine fr_ifcT (tg := 189) (pc := 180) dX1_workOut_180 rfl rfl ?_
            refine fr_aload_n (pc := 189) dX1_workOut_189 rfl rfl ?_
            refine fr_getr (a := 73) (pc := 190) dX1_workOut_190 rfl pf_1_28 s0_73 rfl rf_73_0 ?_
            refine fr_getr (a := 2) (pc := 193) dX1_workOut_193 rfl pf_1_127 s0_2 rfl rf_2_5 ?_
            refine fr_iload_n (pc := 196) dX1_workOut_196 rfl rfl ?_
            refine fr_iaload (a := 8) (v := gI M 8 l2) (pc := 197) dX1_workOut_197 rfl s0_8 hb2 rfl ?_
            obtain ⟨hb21, hq⟩ := hq
            refine fr_iaload (a := 75) (v := gI M 75 (gI M 8 l2)) (pc := 198) dX1_workOut_198 rfl s0_75 hb21 rfl ?_
            refine fr_istore (ls2 := [(2, 73), (0, l1), (0, l2), (0, gI M 4 l2), (0, 0), (0, gI M 75 (w32 (l2 + 1))), (0, gI M 75 (gI M 8 l2))]) (pc := 199) dX1_workOut_199 rfl (Nat.le_of_ble_eq_true rfl) rfl ?_
            refine fr_iload (pc := 201) dX1_workOut_201 rfl rfl ?_
            refine fr_ifc_ne (tg := 223) (pc := 203) dX1_workOut_203 rfl hq (fun hc22 hq => ?_) (fun hc22 hq => ?_)
            · refine fr_iload_n (pc := 206) dX1_workOut_206 rfl rfl ?_
              refine fr_iconst (pc := 207) dX1_workOut_207 (by decide) ?_
              refine fr_icm_eq (tg := 216) (pc := 208) dX1_workOut_208 rfl hq (fun hc23 hq => ?_) (fun hc23 hq => ?_)
              · refine fr_aload_n (pc := 216) dX1_workOut_216 rfl rfl ?_
                refine fr_iconst (pc := 217) dX1_workOut_217 (by decide) ?_
                refine fr_put (a := 73) (i := 6) (pc := 218) dX1_workOut_218 rfl pf_1_73 rfl s0_73 rfl rfl nf_73_6 rfl ?_
                refine fr_iconst (pc := 221) dX1_workOut_221 (by decide) ?_
                exact fr_iret (pc := 222) dX1_workOut_222 (Or.inr (Or.inl ⟨rfl, Or.inl rfl⟩)) hq
              · refine fr_iload_n (pc := 211) dX1_workOut_211 rfl rfl ?_
                refine fr_iconst (pc := 212) dX1_workOut_212 (by decide) ?_
                refine fr_icm_ne (tg := 223) (pc := 213) dX1_workOut_213 rfl hq (fun hc24 hq => ?_) (fun hc24 hq => ?_)
                · refine fr_aload_n (pc := 216) dX1_workOut_216 rfl rfl ?_
                  refine fr_iconst (pc := 217) dX1_workOut_217 (by decide) ?_
                  refine fr_put (a := 73) (i := 6) (pc := 218) dX1_workOut_218 rfl pf_1_73 rfl s0_73 rfl rfl nf_73_6 rfl ?_
                  refine fr_iconst (pc := 221) dX1_workOut_221 (by decide) ?_
                  exact fr_iret (pc := 222) dX1_workOut_222 (Or.inr (Or.inl ⟨rfl, Or.inl rfl⟩)) hq
                · refine fr_aload_n (pc := 223) dX1_workOut_223 rfl rfl ?_
                  refine fr_getr (a := 73) (pc := 224) dX1_workOut_224 rfl pf_1_15 s0_73 rfl rf_73_3 ?_
                  refine fr_iload_n (pc := 227) dX1_workOut_227 rfl rfl ?_
                  refine fr_iload_n (pc := 228) dX1_workOut_228 rfl rfl ?_
                  refine fr_iload (pc := 229) dX1_workOut_229 rfl rfl ?_
                  refine fr_iload (pc := 231) dX1_workOut_231 rfl rfl ?_
                  refine fr_inSI (as := [(0, gI M 4 l2), (0, gI M 75 (w32 (l2 + 1))), (0, gI M 75 (gI M 8 l2))]) (rest := [(0, l2), (2, 75)]) (ls' := [(0, gI M 4 l2), (0, gI M 75 (w32 (l2 + 1))), (0, gI M 75 (gI M 8 l2))]) (c1 := 0) (c2 := 0) (pc := 233) dX1_workOut_233 pl_1_130 rfl ⟨Nat.le_of_ble_eq_true rfl, Nat.le_of_ble_eq_true rfl⟩ rfl rfl  (by omega) rfl rfl (pm_zc _) (hq sc _ (by omega)) (fun r26 M25 hq => ?_)
                  refine fr_iastore (a := 75) (pc := 236) dX1_workOut_236 rfl s0_75 hb2 nr_75 ?_
                  refine fr_iinc (z := w32 (l2 + (-1))) (ls2 := [(2, 73), (0, l1), (0, w32 (l2 + (-1))), (0, gI M 4 l2), (0, 0), (0, gI M 75 (w32 (l2 + 1))), (0, gI M 75 (gI M 8 l2))]) (pc := 237) dX1_workOut_237 (Nat.le_of_ble_eq_true rfl) rfl rfl rfl ?_
                  refine fr_goto (tg := 10) (pc := 240) dX1_workOut_240 rfl ?_
                  exact hq sc d hd (0, gI M 4 l2) pm_t0 (0, 0) pm_t0 (0, gI M 75 (w32 (l2 + 1))) pm_t0 (0, gI M 75 (gI M 8 l2)) pm_t0
            · refine fr_aload_n (pc := 223) dX1_workOut_223 rfl rfl ?_
              refine fr_getr (a := 73) (pc := 224) dX1_workOut_224 rfl pf_1_15 s0_73 rfl rf_73_3 ?_
              refine fr_iload_n (pc := 227) dX1_workOut_227 rfl rfl ?_
              refine fr_iload_n (pc := 228) dX1_workOut_228 rfl rfl ?_
              refine fr_iload (pc := 229) dX1_workOut_229 rfl rfl ?_
              refine fr_iload (pc := 231) dX1_workOut_231 rfl rfl ?_
              refine fr_inSI (as := [(0, gI M 4 l2), (0, gI M 75 (w32 (l2 + 1))), (0, gI M 75 (gI M 8 l2))]) (rest := [(0, l2), (2, 75)]) (ls' := [(0, gI M 4 l2), (0, gI M 75 (w32 (l2 + 1))), (0, gI M 75 (gI M 8 l2))]) (c1 := 0) (c2 := 0) (pc := 233) dX1_workOut_233 pl_1_130 rfl ⟨Nat.le_of_ble_eq_true rfl, Nat.le_of_ble_eq_true rfl⟩ rfl rfl  (by omega) rfl rfl (pm_zc _) (hq sc _ (by omega)) (fun r28 M27 hq => ?_)
              refine fr_iastore (a := 75) (pc := 236) dX1_workOut_236 rfl s0_75 hb2 nr_75 ?_
              refine fr_iinc (z := w32 (l2 + (-1))) (ls2 := [(2, 73), (0, l1), (0, w32 (l2 + (-1))), (0, gI M 4 l2), (0, 0), (0, gI M 75 (w32 (l2 + 1))), (0, gI M 75 (gI M 8 l2))]) (pc := 237) dX1_workOut_237 (Nat.le_of_ble_eq_true rfl) rfl rfl rfl ?_
              refine fr_goto (tg := 10) (pc := 240) dX1_workOut_240 rfl ?_
              exact hq sc d hd (0, gI M 4 l2) pm_t0 (0, 0) pm_t0 (0, gI M 75 (w32 (l2 + 1))) pm_t0 (0, gI M 75 (gI M 8 l2)) pm_t0
theorem k1_combined_r {a1 a2 a3 : Int} {M : pm_M} {K : Int → pm_M → Prop} (hq : (if a1 = 0 then K (w32 (a2 + a3)) M else (if a1 = 1 then K (w32 (a2 - a3)) M else (if a1 = 2 then K (w32 (a2 * a3)) M else (if a1 = 3 then (if a3 = 0 then K 0 M else K (w32 (a2.tdiv a3)) M) else (if a1 = 4 then (if a3 = 0 then K 0 M else K (a2.tmod a3) M) else (if a1 = 5 then (if a2 < a3 then K 1 M else K 0 M) else (if a1 = 6 then (if a2 ≤ a3 then K 1 M else K 0 M) else (if a1 = 7 then (if a2 = a3 then K 1 M else K 0 M) else (if a1 = 8 then (if a2 = a3 then K 0 M else K 1 M) else (if a1 = 9 then (if a2 ≤ a3 then K 0 M else K 1 M) else (if a2 < a3 then K 0 M else K 1 M)))))))))))) : k1_combined a1 a2 a3 M K := by
  intro sc d hd
  refine fr_iload_n (pc := 0) dX1_combined_0 rfl rfl ?_
  refine pm_ite hq (fun hc1 hq => ?_) (fun hc1 hq => ?_)
  · refine fr_tabV (tg := 56) (off := 55) (v := 0) (pc := 1) dX1_combined_1 hc1 (by decide) rfl rfl ?_
    refine fr_iload_n (pc := 56) dX1_combined_56 rfl rfl ?_
    refine fr_iload_n (pc := 57) dX1_combined_57 rfl rfl ?_
    refine fr_iadd (z := w32 (a2 + a3)) (pc := 58) dX1_combined_58 rfl ?_
    exact fr_iret (pc := 59) dX1_combined_59 (Or.inl rfl) hq
  · refine pm_ite hq (fun hc2 hq => ?_) (fun hc2 hq => ?_)
    · refine fr_tabV (tg := 60) (off := 59) (v := 1) (pc := 1) dX1_combined_1 hc2 (by decide) rfl rfl ?_
      refine fr_iload_n (pc := 60) dX1_combined_60 rfl rfl ?_
      refine fr_iload_n (pc := 61) dX1_combined_61 rfl rfl ?_
      refine fr_isub (z := w32 (a2 - a3)) (pc := 62) dX1_combined_62 rfl ?_
      exact fr_iret (pc := 63) dX1_combined_63 (Or.inl rfl) hq
    · refine pm_ite hq (fun hc3 hq => ?_) (fun hc3 hq => ?_)
      · refine fr_tabV (tg := 64) (off := 63) (v := 2) (pc := 1) dX1_combined_1 hc3 (by decide) rfl rfl ?_
        refine fr_iload_n (pc := 64) dX1_combined_64 rfl rfl ?_
        refine fr_iload_n (pc := 65) dX1_combined_65 rfl rfl ?_
        refine fr_imul (z := w32 (a2 * a3)) (pc := 66) dX1_combined_66 rfl ?_
        exact fr_iret (pc := 67) dX1_combined_67 (Or.inl rfl) hq
      · refine pm_ite hq (fun hc4 hq => ?_) (fun hc4 hq => ?_)
        · refine fr_tabV (tg := 68) (off := 67) (v := 3) (pc := 1) dX1_combined_1 hc4 (by decide) rfl rfl ?_
          refine fr_iload_n (pc := 68) dX1_combined_68 rfl rfl ?_
          refine fr_ifc_ne (tg := 76) (pc := 69) dX1_combined_69 rfl hq (fun hc5 hq => ?_) (fun hc5 hq => ?_)
          · refine fr_iconst (pc := 72) dX1_combined_72 (by decide) ?_
            refine fr_goto (tg := 79) (pc := 73) dX1_combined_73 rfl ?_
            exact fr_iret (pc := 79) dX1_combined_79 (Or.inl rfl) hq
          · refine fr_iload_n (pc := 76) dX1_combined_76 rfl rfl ?_
            refine fr_iload_n (pc := 77) dX1_combined_77 rfl rfl ?_
            refine fr_idiv (pc := 78) dX1_combined_78 hc5 ?_
            exact fr_iret (pc := 79) dX1_combined_79 (Or.inl rfl) hq
        · refine pm_ite hq (fun hc6 hq => ?_) (fun hc6 hq => ?_)
          · refine fr_tabV (tg := 80) (off := 79) (v := 4) (pc := 1) dX1_combined_1 hc6 (by decide) rfl rfl ?_
            refine fr_iload_n (pc := 80) dX1_combined_80 rfl rfl ?_
            refine fr_ifc_ne (tg := 88) (pc := 81) dX1_combined_81 rfl hq (fun hc7 hq => ?_) (fun hc7 hq => ?_)
            · refine fr_iconst (pc := 84) dX1_combined_84 (by decide) ?_
              refine fr_goto (tg := 91) (pc := 85) dX1_combined_85 rfl ?_
              exact fr_iret (pc := 91) dX1_combined_91 (Or.inl rfl) hq
            · refine fr_iload_n (pc := 88) dX1_combined_88 rfl rfl ?_
              refine fr_iload_n (pc := 89) dX1_combined_89 rfl rfl ?_
              refine fr_irem (pc := 90) dX1_combined_90 hc7 ?_
              exact fr_iret (pc := 91) dX1_combined_91 (Or.inl rfl) hq
          · refine pm_ite hq (fun hc8 hq => ?_) (fun hc8 hq => ?_)
            · refine fr_tabV (tg := 92) (off := 91) (v := 5) (pc := 1) dX1_combined_1 hc8 (by decide) rfl rfl ?_
              refine fr_iload_n (pc := 92) dX1_combined_92 rfl rfl ?_
              refine fr_iload_n (pc := 93) dX1_combined_93 rfl rfl ?_
              refine fr_icm_ge (tg := 101) (pc := 94) dX1_combined_94 rfl hq (fun hc9 hq => ?_) (fun hc9 hq => ?_)
              · refine fr_iconst (pc := 97) dX1_combined_97 (by decide) ?_
                refine fr_goto (tg := 102) (pc := 98) dX1_combined_98 rfl ?_
                exact fr_iret (pc := 102) dX1_combined_102 (Or.inl rfl) hq
              · refine fr_iconst (pc := 101) dX1_combined_101 (by decide) ?_
                exact fr_iret (pc := 102) dX1_combined_102 (Or.inl rfl) hq
            · refine pm_ite hq (fun hc10 hq => ?_) (fun hc10 hq => ?_)
              · refine fr_tabV (tg := 103) (off := 102) (v := 6) (pc := 1) dX1_combined_1 hc10 (by decide) rfl rfl ?_
                refine fr_iload_n (pc := 103) dX1_combined_103 rfl rfl ?_
                refine fr_iload_n (pc := 104) dX1_combined_104 rfl rfl ?_
                refine fr_icm_gt (tg := 112) (pc := 105) dX1_combined_105 rfl hq (fun hc11 hq => ?_) (fun hc11 hq => ?_)
                · refine fr_iconst (pc := 108) dX1_combined_108 (by decide) ?_
                  refine fr_goto (tg := 113) (pc := 109) dX1_combined_109 rfl ?_
                  exact fr_iret (pc := 113) dX1_combined_113 (Or.inl rfl) hq
                · refine fr_iconst (pc := 112) dX1_combined_112 (by decide) ?_
                  exact fr_iret (pc := 113) dX1_combined_113 (Or.inl rfl) hq
              · refine pm_ite hq (fun hc12 hq => ?_) (fun hc12 hq => ?_)
                · refine fr_tabV (tg := 114) (off := 113) (v := 7) (pc := 1) dX1_combined_1 hc12 (by decide) rfl rfl ?_
                  refine fr_iload_n (pc := 114) dX1_combined_114 rfl rfl ?_
                  refine fr_iload_n (pc := 115) dX1_combined_115 rfl rfl ?_
                  refine fr_icm_ne (tg := 123) (pc := 116) dX1_combined_116 rfl hq (fun hc13 hq => ?_) (fun hc13 hq => ?_)
                  · refine fr_iconst (pc := 119) dX1_combined_119 (by decide) ?_
                    refine fr_goto (tg := 124) (pc := 120) dX1_combined_120 rfl ?_
                    exact fr_iret (pc := 124) dX1_combined_124 (Or.inl rfl) hq
                  · refine fr_iconst (pc := 123) dX1_combined_123 (by decide) ?_
                    exact fr_iret (pc := 124) dX1_combined_124 (Or.inl rfl) hq
                · refine pm_ite hq (fun hc14 hq => ?_) (fun hc14 hq => ?_)
                  · refine fr_tabV (tg := 125) (off := 124) (v := 8) (pc := 1) dX1_combined_1 hc14 (by decide) rfl rfl ?_
                    refine fr_iload_n (pc := 125) dX1_combined_125 rfl rfl ?_
                    refine fr_iload_n (pc := 126) dX1_combined_126 rfl rfl ?_
                    refine fr_icm_eq (tg := 134) (pc := 127) dX1_combined_127 rfl hq (fun hc15 hq => ?_) (fun hc15 hq => ?_)
                    · refine fr_iconst (pc := 134) dX1_combined_134 (by decide) ?_
                      exact fr_iret (pc := 135) dX1_combined_135 (Or.inl rfl) hq
                    · refine fr_iconst (pc := 130) dX1_combined_130 (by decide) ?_
                      refine fr_goto (tg := 135) (pc := 131) dX1_combined_131 rfl ?_
                      exact fr_iret (pc := 135) dX1_combined_135 (Or.inl rfl) hq
                  · refine pm_ite hq (fun hc16 hq => ?_) (fun hc16 hq => ?_)
                    · refine fr_tabV (tg := 136) (off := 135) (v := 9) (pc := 1) dX1_combined_1 hc16 (by decide) rfl rfl ?_
                      refine fr_iload_n (pc := 136) dX1_combined_136 rfl rfl ?_
                      refine fr_iload_n (pc := 137) dX1_combined_137 rfl rfl ?_
                      refine fr_icm_le (tg := 145) (pc := 138) dX1_combined_138 rfl hq (fun hc17 hq => ?_) (fun hc17 hq => ?_)
                      · refine fr_iconst (pc := 145) dX1_combined_145 (by decide) ?_
                        exact fr_iret (pc := 146) dX1_combined_146 (Or.inl rfl) hq
                      · refine fr_iconst (pc := 141) dX1_combined_141 (by decide) ?_
                        refine fr_goto (tg := 146) (pc := 142) dX1_combined_142 rfl ?_
                        exact fr_iret (pc := 146) dX1_combined_146 (Or.inl rfl) hq
                    · refine fr_tableO (tg := 147) (pc := 1) dX1_combined_1 (by omega) rfl ?_
                      refine fr_iload_n (pc := 147) dX1_combined_147 rfl rfl ?_
                      refine fr_iload_n (pc := 148) dX1_combined_148 rfl rfl ?_
                      refine fr_icm_lt (tg := 156) (pc := 149) dX1_combined_149 rfl hq (fun hc18 hq => ?_) (fun hc18 hq => ?_)
                      · refine fr_iconst (pc := 156) dX1_combined_156 (by decide) ?_
                        exact fr_iret (pc := 157) dX1_combined_157 (Or.inl rfl) hq
                      · refine fr_iconst (pc := 152) dX1_combined_152 (by decide) ?_
                        refine fr_goto (tg := 157) (pc := 153) dX1_combined_153 rfl ?_
                        exact fr_iret (pc := 157) dX1_combined_157 (Or.inl rfl) hq

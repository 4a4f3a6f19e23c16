/-! the words of the other text reader -/
theorem tk1 {t : Int} (h : 0 ≤ t ∧ t ≤ 5) : tkR t = 1 ↔ t = 2 := by
  unfold tkR
  constructor
  · intro h
    split at h
    · omega
    split at h
    · omega
    split at h
    · assumption
    split at h <;> omega
  · intro h; rw [h]; decide
def bw (L : Int → Int) (s : Sc) (i : Nat) : Int := if (i : Int) < s.1 - s.2.1 then ub L (s.2.1 + (i : Int)) else 0
theorem word_loop {sc : Nat × (Nat → Int)} {d : Nat} {L : Int → Int} {n : Int} {s : Sc} {M : pm_M} {S : pm_S} {N : pm_M} {A : Nat} {a1 a2 a3 a4 a5 a6 : Int} {w : Nat → Int} (h20 : 20 ≤ d) (hl : pm_Ly M) (hS : pm_LS S) (hN : pm_Ag M N) (hT : TpR L n M) (hr : Hr s M) (hk : SK n s) (hA : S[A]? = some (14, 6)) (hw : ∀ i : Nat, i < 6 → N A i = w i) : ∀ (e k : Nat) (is : Int), k + e = 6 → (is = 0 ∨ is = 1) → FbX sc d mX12_isWord 65 [(2, 142), (0, a1), (0, a2), (0, a3), (0, a4), (0, a5), (0, a6), (2, (A : Int)), (0, is), (0, (k : Int))] [] S N (fun r S1 N1 => S1 = S ∧ N1 = N ∧ ((r = some (0, 1) ∧ is = 1 ∧ ∀ i : Nat, k ≤ i → i < 6 → bw L s i = w i) ∨ (r = some (0, 0) ∧ ¬ (is = 1 ∧ ∀ i : Nat, k ≤ i → i < 6 → bw L s i = w i)))) := by
  have hp := hk.1
  have n6 := hT.2.1.2
  have ws : w32 (s.1 - s.2.1) = s.1 - s.2.1 := w32_id (by omega)
  intro e
  induction e with
  | zero =>
    intro k is hke his
    refine fb_iload (pc := 65) dX12_isWord_65 rfl rfl ?_
    refine fb_bipush (pc := 67) dX12_isWord_67 (by decide) ?_
    refine fb_icmT (tg := 127) (pc := 69) dX12_isWord_69 (decide_eq_true (by omega)) rfl ?_
    refine fb_iload (pc := 127) dX12_isWord_127 rfl rfl ?_
    refine fb_iret (pc := 129) dX12_isWord_129 (Or.inr (Or.inl ⟨rfl, his⟩)) ⟨rfl, rfl, ?_⟩
    rcases his with h | h
    · subst h; exact Or.inr ⟨rfl, fun z => absurd z.1 (by decide)⟩
    · subst h; exact Or.inl ⟨rfl, rfl, fun i i0 i1 => by omega⟩
  | succ e ih =>
    intro k is hke his
    refine fb_iload (pc := 65) dX12_isWord_65 rfl rfl ?_
    refine fb_bipush (pc := 67) dX12_isWord_67 (by decide) ?_
    refine fb_icmF (tg := 127) (pc := 69) dX12_isWord_69 (decide_eq_false (by omega)) rfl ?_
    refine fb_iload (pc := 72) dX12_isWord_72 rfl rfl ?_
    by_cases h0 : is = 0
    · refine fb_ifcT (tg := 127) (pc := 74) dX12_isWord_74 (decide_eq_true h0) rfl ?_
      refine fb_iload (pc := 127) dX12_isWord_127 rfl rfl ?_
      refine fb_iret (pc := 129) dX12_isWord_129 (Or.inr (Or.inl ⟨rfl, his⟩)) ⟨rfl, rfl, ?_⟩
      subst h0
      exact Or.inr ⟨rfl, fun z => absurd z.1 (by decide)⟩
    have h1 : is = 1 := his.resolve_left h0
    subst h1
    refine fb_ifcF (tg := 127) (pc := 74) dX12_isWord_74 (decide_eq_false h0) rfl ?_
    refine fb_iload (pc := 77) dX12_isWord_77 rfl rfl ?_
    refine fb_aload_n (pc := 79) dX12_isWord_79 rfl rfl ?_
    refine fb_getf hS hN (a := 142) (i := 5) (pc := 80) dX12_isWord_80 rfl pf_12_134 rfl s0_142 rfl hr.1 ?_
    refine fb_aload_n (pc := 83) dX12_isWord_83 rfl rfl ?_
    refine fb_getf hS hN (a := 142) (i := 4) (pc := 84) dX12_isWord_84 rfl pf_12_141 rfl s0_142 rfl hr.2.1 ?_
    refine fb_isub (pc := 87) dX12_isWord_87 ws ?_
    -- behind the byte
    have tail : FbX sc d mX12_isWord 106 [(2, 142), (0, a1), (0, a2), (0, a3), (0, a4), (0, a5), (0, a6), (2, (A : Int)), (0, 1), (0, (k : Int))] [(0, bw L s k)] S N (fun r S1 N1 => S1 = S ∧ N1 = N ∧ ((r = some (0, 1) ∧ (1 : Int) = 1 ∧ ∀ i : Nat, k ≤ i → i < 6 → bw L s i = w i) ∨ (r = some (0, 0) ∧ ¬ ((1 : Int) = 1 ∧ ∀ i : Nat, k ≤ i → i < 6 → bw L s i = w i)))) := by
      refine fb_aload (pc := 106) dX12_isWord_106 rfl (pm_isA_nat A) ?_
      refine fb_iload (pc := 108) dX12_isWord_108 rfl rfl ?_
      refine fb_iaload (a := A) (n := 6) (pc := 110) dX12_isWord_110 rfl hA ⟨by omega, by omega⟩ ?_
      rw [Int.toNat_natCast, hw k (by omega)]
      have wk : w32 ((k : Int) + 1) = ((k + 1 : Nat) : Int) := by rw [w32_id (by omega)]; omega
      have next : ∀ v : Int, (v = 0 ∨ v = 1) → (v = 1 ↔ bw L s k = w k) → FbX sc d mX12_isWord 119 [(2, 142), (0, a1), (0, a2), (0, a3), (0, a4), (0, a5), (0, a6), (2, (A : Int)), (0, 1), (0, (k : Int))] [(0, v)] S N (fun r S1 N1 => S1 = S ∧ N1 = N ∧ ((r = some (0, 1) ∧ (1 : Int) = 1 ∧ ∀ i : Nat, k ≤ i → i < 6 → bw L s i = w i) ∨ (r = some (0, 0) ∧ ¬ ((1 : Int) = 1 ∧ ∀ i : Nat, k ≤ i → i < 6 → bw L s i = w i)))) := by
        intro v hv hvw
        refine fb_istore (ls2 := [(2, 142), (0, a1), (0, a2), (0, a3), (0, a4), (0, a5), (0, a6), (2, (A : Int)), (0, v), (0, (k : Int))]) (pc := 119) dX12_isWord_119 rfl (Nat.le_of_ble_eq_true rfl) rfl ?_
        refine fb_iinc (ls2 := [(2, 142), (0, a1), (0, a2), (0, a3), (0, a4), (0, a5), (0, a6), (2, (A : Int)), (0, v), (0, ((k + 1 : Nat) : Int))]) (pc := 121) dX12_isWord_121 (Nat.le_of_ble_eq_true rfl) rfl wk rfl ?_
        refine fb_goto (tg := 65) (pc := 124) dX12_isWord_124 rfl ?_
        obtain ⟨q1, q2, q3, q4, q5, q6, q7, q8⟩ := ih (k + 1) v (by omega) hv
        refine ⟨q1, q2, q3, q4, q5, q6, q7, ?_⟩
        rcases q8 with ⟨e1, e2, e3⟩ | ⟨e1, e2⟩
        · refine Or.inl ⟨e1, rfl, fun i i0 i1 => ?_⟩
          by_cases c : i = k
          · subst c; exact hvw.mp e2
          · exact e3 i (by omega) i1
        · refine Or.inr ⟨e1, fun z => e2 ⟨hvw.mpr (z.2 k (Nat.le_refl _) (by omega)), fun i i0 i1 => z.2 i (by omega) i1⟩⟩
      by_cases c : bw L s k = w k
      · refine fb_icmF (tg := 118) (pc := 111) dX12_isWord_111 (decide_eq_false (by omega)) rfl ?_
        refine fb_iconst (pc := 114) dX12_isWord_114 (by decide) ?_
        refine fb_goto (tg := 119) (pc := 115) dX12_isWord_115 rfl ?_
        exact next 1 (Or.inr rfl) ⟨fun _ => c, fun _ => rfl⟩
      · refine fb_icmT (tg := 118) (pc := 111) dX12_isWord_111 (decide_eq_true (by omega)) rfl ?_
        refine fb_iconst (pc := 118) dX12_isWord_118 (by decide) ?_
        exact next 0 (Or.inl rfl) ⟨fun z => absurd z (by decide), fun z => absurd z c⟩
    by_cases hin : (k : Int) < s.1 - s.2.1
    · have eb : bw L s k = ub L (s.2.1 + (k : Int)) := by unfold bw; rw [if_pos hin]
      refine fb_icmF (tg := 105) (pc := 88) dX12_isWord_88 (decide_eq_false (by omega)) rfl ?_
      refine fb_aload_n (pc := 91) dX12_isWord_91 rfl rfl ?_
      refine fb_aload_n (pc := 92) dX12_isWord_92 rfl rfl ?_
      refine fb_getf hS hN (a := 142) (i := 4) (pc := 93) dX12_isWord_93 rfl pf_12_141 rfl s0_142 rfl hr.2.1 ?_
      refine fb_iload (pc := 96) dX12_isWord_96 rfl rfl ?_
      refine fb_iadd (z := s.2.1 + (k : Int)) (pc := 98) dX12_isWord_98 (w32_id (by omega)) ?_
      refine fb_inVI (a := 142) (as := [(0, s.2.1 + (k : Int))]) (rest := []) (ls' := [(2, 142), (0, s.2.1 + (k : Int))]) (pc := 99) hS dX12_isWord_99 pl_12_137 rfl ⟨Nat.le_of_ble_eq_true rfl, Nat.le_of_ble_eq_true rfl⟩ rfl rfl rfl s0_142 (Nat.le_of_ble_eq_true rfl) h20 rfl rfl (fb_byteAt hl hS hN hT ⟨by omega, by omega⟩) (fun r S1 N1 h => by rw [h.1]; exact fun z => by cases z) (fun r S1 N1 h => ?_)
      obtain ⟨rfl, rfl, rfl⟩ := h
      refine fb_goto (tg := 106) (pc := 102) dX12_isWord_102 rfl ?_
      rw [eb] at tail
      exact tail
    · have eb : bw L s k = 0 := by unfold bw; rw [if_neg hin]
      refine fb_icmT (tg := 105) (pc := 88) dX12_isWord_88 (decide_eq_true (by omega)) rfl ?_
      refine fb_iconst (pc := 105) dX12_isWord_105 (by decide) ?_
      rw [eb] at tail
      exact tail
theorem pm_szA (A : pm_S) (q : Nat × Nat) : pm_sz (A ++ [q]) = pm_sz A + q.2 := by
  induction A with
  | nil => show q.2 + pm_sz [] = pm_sz [] + q.2; exact Nat.add_comm _ _
  | cons b t ih => show b.2 + pm_sz (t ++ [q]) = b.2 + pm_sz t + q.2; omega
theorem rword0_r {c : Nat} {L : Int → Int} {n : Int} {s : Sc} {M : pm_M} {a1 a2 a3 a4 a5 a6 : Int} {K : Int → pm_M → Prop} (hc : 1 ≤ c) (hT : TpR L n M) (hr : Hr s M) (hk : SK n s)
    (h1 : s.2.2.1 = 2 → s.1 - s.2.1 ≤ 6 → (∀ i : Nat, i < 6 → bw L s i = [a1, a2, a3, a4, a5, a6].getD i 0) → K 1 M) (h0 : ¬ (s.2.2.1 = 2 ∧ s.1 - s.2.1 ≤ 6 ∧ ∀ i : Nat, i < 6 → bw L s i = [a1, a2, a3, a4, a5, a6].getD i 0) → K 0 M) : k12_isWord c a1 a2 a3 a4 a5 a6 M K := by
  intro sc d h20 hl S N hS hN
  have hp := hk.1
  have n6 := hT.2.1.2
  have ws : w32 (s.1 - s.2.1) = s.1 - s.2.1 := w32_id (by omega)
  have hlen : 178 ≤ S.length := by
    obtain ⟨X, rfl⟩ := hS
    rw [List.length_append, show pm_S0.length = 178 from rfl]; omega
  have hS1 : pm_LS (S ++ [(14, 6)]) := by
    obtain ⟨X, rfl⟩ := hS
    exact ⟨X ++ [(14, 6)], by rw [List.append_assoc]⟩
  have hA : (S ++ [(14, 6)])[S.length]? = some (14, 6) := by
    rw [List.getElem?_append_right (Nat.le_refl _), Nat.sub_self]; rfl
  obtain ⟨N6, hN6⟩ : ∃ N6, N6 = pm_up (pm_up (pm_up (pm_up (pm_up (pm_up (pm_nw N S.length (fun _ => 0)) S.length (0 : Int).toNat a1) S.length (1 : Int).toNat a2) S.length (2 : Int).toNat a3) S.length (3 : Int).toNat a4) S.length (4 : Int).toNat a5) S.length (5 : Int).toNat a6 := ⟨_, rfl⟩
  have hAg : pm_Ag M N6 := by
    intro b hb
    have hne : b ≠ S.length := by omega
    rw [hN6, pm_up_ne hne, pm_up_ne hne, pm_up_ne hne, pm_up_ne hne, pm_up_ne hne, pm_up_ne hne, pm_nw_ne hne]
    exact hN b hb
  have hw : ∀ i : Nat, i < 6 → N6 S.length i = [a1, a2, a3, a4, a5, a6].getD i 0 := by
    intro i hi
    rw [hN6]
    have h6 : i = 0 ∨ i = 1 ∨ i = 2 ∨ i = 3 ∨ i = 4 ∨ i = 5 := by omega
    rcases h6 with rfl | rfl | rfl | rfl | rfl | rfl <;> simp [pm_up]
  have run : FbX sc d mX12_isWord 0 [(2, 142), (0, a1), (0, a2), (0, a3), (0, a4), (0, a5), (0, a6), (9, 0), (9, 0), (9, 0)] [] S N (fun r S1 N1 => S1 = S ++ [(14, 6)] ∧ N1 = N6 ∧ ((r = some (0, 1) ∧ s.2.2.1 = 2 ∧ s.1 - s.2.1 ≤ 6 ∧ ∀ i : Nat, i < 6 → bw L s i = [a1, a2, a3, a4, a5, a6].getD i 0) ∨ (r = some (0, 0) ∧ ¬ (s.2.2.1 = 2 ∧ s.1 - s.2.1 ≤ 6 ∧ ∀ i : Nat, i < 6 → bw L s i = [a1, a2, a3, a4, a5, a6].getD i 0)))) := by
    refine fb_bipush (pc := 0) dX12_isWord_0 (by decide) ?_
    refine fb_newi (pc := 2) dX12_isWord_2 (by decide) ?_
    refine fb_dup (pc := 4) dX12_isWord_4 pm_t2 ?_
    refine fb_iconst (pc := 5) dX12_isWord_5 (by decide) ?_
    refine fb_iload_n (pc := 6) dX12_isWord_6 rfl rfl ?_
    refine fb_iastore (a := S.length) (n := 6) (pc := 7) dX12_isWord_7 rfl hA (by decide) ?_
    refine fb_dup (pc := 8) dX12_isWord_8 pm_t2 ?_
    refine fb_iconst (pc := 9) dX12_isWord_9 (by decide) ?_
    refine fb_iload_n (pc := 10) dX12_isWord_10 rfl rfl ?_
    refine fb_iastore (a := S.length) (n := 6) (pc := 11) dX12_isWord_11 rfl hA (by decide) ?_
    refine fb_dup (pc := 12) dX12_isWord_12 pm_t2 ?_
    refine fb_iconst (pc := 13) dX12_isWord_13 (by decide) ?_
    refine fb_iload_n (pc := 14) dX12_isWord_14 rfl rfl ?_
    refine fb_iastore (a := S.length) (n := 6) (pc := 15) dX12_isWord_15 rfl hA (by decide) ?_
    refine fb_dup (pc := 16) dX12_isWord_16 pm_t2 ?_
    refine fb_iconst (pc := 17) dX12_isWord_17 (by decide) ?_
    refine fb_iload (pc := 18) dX12_isWord_18 rfl rfl ?_
    refine fb_iastore (a := S.length) (n := 6) (pc := 20) dX12_isWord_20 rfl hA (by decide) ?_
    refine fb_dup (pc := 21) dX12_isWord_21 pm_t2 ?_
    refine fb_iconst (pc := 22) dX12_isWord_22 (by decide) ?_
    refine fb_iload (pc := 23) dX12_isWord_23 rfl rfl ?_
    refine fb_iastore (a := S.length) (n := 6) (pc := 25) dX12_isWord_25 rfl hA (by decide) ?_
    refine fb_dup (pc := 26) dX12_isWord_26 pm_t2 ?_
    refine fb_iconst (pc := 27) dX12_isWord_27 (by decide) ?_
    refine fb_iload (pc := 28) dX12_isWord_28 rfl rfl ?_
    refine fb_iastore (a := S.length) (n := 6) (pc := 30) dX12_isWord_30 rfl hA (by decide) ?_
    rw [← hN6]
    show FbX sc d mX12_isWord 31 _ _ (S ++ [(14, 6)]) N6 _
    refine fb_astore (ls2 := [(2, 142), (0, a1), (0, a2), (0, a3), (0, a4), (0, a5), (0, a6), (2, (S.length : Int)), (9, 0), (9, 0)]) (pc := 31) dX12_isWord_31 (pm_isA_nat _) (Nat.le_of_ble_eq_true rfl) rfl ?_
    refine fb_aload_n (pc := 33) dX12_isWord_33 rfl rfl ?_
    refine fb_getf hS1 hAg (a := 142) (i := 6) (pc := 34) dX12_isWord_34 rfl pf_12_144 rfl s0_142 rfl hr.2.2.1 ?_
    refine fb_iconst (pc := 37) dX12_isWord_37 (by decide) ?_
    have go : ∀ v : Int, (v = 0 ∨ v = 1) → (v = 1 ↔ s.2.2.1 = 2 ∧ s.1 - s.2.1 ≤ 6) → FbX sc d mX12_isWord 60 [(2, 142), (0, a1), (0, a2), (0, a3), (0, a4), (0, a5), (0, a6), (2, (S.length : Int)), (9, 0), (9, 0)] [(0, v)] (S ++ [(14, 6)]) N6 (fun r S1 N1 => S1 = S ++ [(14, 6)] ∧ N1 = N6 ∧ ((r = some (0, 1) ∧ s.2.2.1 = 2 ∧ s.1 - s.2.1 ≤ 6 ∧ ∀ i : Nat, i < 6 → bw L s i = [a1, a2, a3, a4, a5, a6].getD i 0) ∨ (r = some (0, 0) ∧ ¬ (s.2.2.1 = 2 ∧ s.1 - s.2.1 ≤ 6 ∧ ∀ i : Nat, i < 6 → bw L s i = [a1, a2, a3, a4, a5, a6].getD i 0)))) := by
      intro v hv hvi
      refine fb_istore (ls2 := [(2, 142), (0, a1), (0, a2), (0, a3), (0, a4), (0, a5), (0, a6), (2, (S.length : Int)), (0, v), (9, 0)]) (pc := 60) dX12_isWord_60 rfl (Nat.le_of_ble_eq_true rfl) rfl ?_
      refine fb_iconst (pc := 62) dX12_isWord_62 (by decide) ?_
      refine fb_istore (ls2 := [(2, 142), (0, a1), (0, a2), (0, a3), (0, a4), (0, a5), (0, a6), (2, (S.length : Int)), (0, v), (0, ((0 : Nat) : Int))]) (pc := 63) dX12_isWord_63 rfl (Nat.le_of_ble_eq_true rfl) rfl ?_
      obtain ⟨q1, q2, q3, q4, q5, q6, q7, q8⟩ := word_loop (sc := sc) (d := d) (a1 := a1) (a2 := a2) (a3 := a3) (a4 := a4) (a5 := a5) (a6 := a6) h20 hl hS1 hAg hT hr hk hA hw 6 0 v rfl hv
      refine ⟨q1, q2, q3, q4, q5, q6, q7, ?_⟩
      rcases q8 with ⟨e1, e2, e3⟩ | ⟨e1, e2⟩
      · exact Or.inl ⟨e1, (hvi.mp e2).1, (hvi.mp e2).2, fun i hi => e3 i (Nat.zero_le _) hi⟩
      · exact Or.inr ⟨e1, fun z => e2 ⟨hvi.mpr ⟨z.1, z.2.1⟩, fun i _ hi => z.2.2 i hi⟩⟩
    by_cases a : tkR s.2.2.1 = 1
    · have t2 := (tk1 hk.2.2.2.2.2.1).mp a
      refine fb_icmF (tg := 59) (pc := 38) dX12_isWord_38 (decide_eq_false (by omega)) rfl ?_
      refine fb_aload_n (pc := 41) dX12_isWord_41 rfl rfl ?_
      refine fb_getf hS1 hAg (a := 142) (i := 5) (pc := 42) dX12_isWord_42 rfl pf_12_134 rfl s0_142 rfl hr.1 ?_
      refine fb_aload_n (pc := 45) dX12_isWord_45 rfl rfl ?_
      refine fb_getf hS1 hAg (a := 142) (i := 4) (pc := 46) dX12_isWord_46 rfl pf_12_141 rfl s0_142 rfl hr.2.1 ?_
      refine fb_isub (pc := 49) dX12_isWord_49 ws ?_
      refine fb_bipush (pc := 50) dX12_isWord_50 (by decide) ?_
      by_cases b : s.1 - s.2.1 ≤ 6
      · refine fb_icmF (tg := 59) (pc := 52) dX12_isWord_52 (decide_eq_false (by omega)) rfl ?_
        refine fb_iconst (pc := 55) dX12_isWord_55 (by decide) ?_
        refine fb_goto (tg := 60) (pc := 56) dX12_isWord_56 rfl ?_
        exact go 1 (Or.inr rfl) ⟨fun _ => ⟨t2, b⟩, fun _ => rfl⟩
      · refine fb_icmT (tg := 59) (pc := 52) dX12_isWord_52 (decide_eq_true (by omega)) rfl ?_
        refine fb_iconst (pc := 59) dX12_isWord_59 (by decide) ?_
        exact go 0 (Or.inl rfl) ⟨fun z => absurd z (by decide), fun z => absurd z.2 b⟩
    · refine fb_icmT (tg := 59) (pc := 38) dX12_isWord_38 (decide_eq_true a) rfl ?_
      refine fb_iconst (pc := 59) dX12_isWord_59 (by decide) ?_
      exact go 0 (Or.inl rfl) ⟨fun z => absurd z (by decide), fun z => absurd ((tk1 hk.2.2.2.2.2.1).mpr z.1) a⟩
  obtain ⟨m, r, S', N', e, e1, e2, e3⟩ := run
  subst e1; subst e2
  refine ⟨m, r, _, _, M, e, hS1, hAg, ?_, ?_, hl, ?_⟩
  · rw [List.length_append]; show S.length + 1 ≤ _; omega
  · rw [pm_szA]; show pm_sz S + 6 ≤ _; omega
  · rcases e3 with ⟨q, q2, q3, q4⟩ | ⟨q, q2⟩
    · exact ⟨1, q, h1 q2 q3 q4⟩
    · exact ⟨0, q, h0 q2⟩

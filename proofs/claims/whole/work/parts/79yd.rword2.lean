/-! words: told by the text; a wrong token -/
/-- no word stands here -/
theorem rwordN_r {c : Nat} {M : pm_M} {a1 a2 a3 a4 a5 a6 v6 : Int} {K : Int → pm_M → Prop} (hc : 1 ≤ c) (htk : gI M 142 6 = v6) (hne : ¬ v6 = 1) (h0 : K 0 M) : k12_isWord c a1 a2 a3 a4 a5 a6 M K := by
  intro sc d h20 hl S N hS hN
  have hlen : 178 ≤ S.length := by
    obtain ⟨X, rfl⟩ := hS
    rw [List.length_append, show pm_S0.length = 178 from rfl]; omega
  have hS1 : pm_LS (S ++ [(14, 6)]) := by
    obtain ⟨X, rfl⟩ := hS
    exact ⟨X ++ [(14, 6)], by rw [List.append_assoc]⟩
  have hA : (S ++ [(14, 6)])[S.length]? = some (14, 6) := by
    rw [List.getElem?_append_right (Nat.le_refl _), Nat.sub_self]; rfl
  obtain ⟨N6, hN6⟩ : ∃ N6, N6 = pm_up (pm_up (pm_up (pm_up (pm_up (pm_up (pm_nw N S.length (fun _ => 0)) S.length (0 : Int).toNat a1) S.length (1 : Int).toNat a2) S.length (2 : Int).toNat a3) S.length (3 : Int).toNat a4) S.length (4 : Int).toNat a5) S.length (5 : Int).toNat a6 := ⟨_, rfl⟩
  have hAg : pm_Ag M N6 := by
    intro b hb
    have hne : b ≠ S.length := by omega
    rw [hN6, pm_up_ne hne, pm_up_ne hne, pm_up_ne hne, pm_up_ne hne, pm_up_ne hne, pm_up_ne hne, pm_nw_ne hne]
    exact hN b hb
  have run : FbX sc d mX12_isWord 0 [(2, 142), (0, a1), (0, a2), (0, a3), (0, a4), (0, a5), (0, a6), (9, 0), (9, 0), (9, 0)] [] S N (fun r S1 N1 => S1 = S ++ [(14, 6)] ∧ N1 = N6 ∧ r = some (0, 0)) := by
    refine fb_bipush (pc := 0) dX12_isWord_0 (by decide) ?_
    refine fb_newi (pc := 2) dX12_isWord_2 (by decide) ?_
    refine fb_dup (pc := 4) dX12_isWord_4 pm_t2 ?_
    refine fb_iconst (pc := 5) dX12_isWord_5 (by decide) ?_
    refine fb_iload_n (pc := 6) dX12_isWord_6 rfl rfl ?_
    refine fb_iastore (a := S.length) (n := 6) (pc := 7) dX12_isWord_7 rfl hA (by decide) ?_
    refine fb_dup (pc := 8) dX12_isWord_8 pm_t2 ?_
    refine fb_iconst (pc := 9) dX12_isWord_9 (by decide) ?_
    refine fb_iload_n (pc := 10) dX12_isWord_10 rfl rfl ?_
    refine fb_iastore (a := S.length) (n := 6) (pc := 11) dX12_isWord_11 rfl hA (by decide) ?_
    refine fb_dup (pc := 12) dX12_isWord_12 pm_t2 ?_
    refine fb_iconst (pc := 13) dX12_isWord_13 (by decide) ?_
    refine fb_iload_n (pc := 14) dX12_isWord_14 rfl rfl ?_
    refine fb_iastore (a := S.length) (n := 6) (pc := 15) dX12_isWord_15 rfl hA (by decide) ?_
    refine fb_dup (pc := 16) dX12_isWord_16 pm_t2 ?_
    refine fb_iconst (pc := 17) dX12_isWord_17 (by decide) ?_
    refine fb_iload (pc := 18) dX12_isWord_18 rfl rfl ?_
    refine fb_iastore (a := S.length) (n := 6) (pc := 20) dX12_isWord_20 rfl hA (by decide) ?_
    refine fb_dup (pc := 21) dX12_isWord_21 pm_t2 ?_
    refine fb_iconst (pc := 22) dX12_isWord_22 (by decide) ?_
    refine fb_iload (pc := 23) dX12_isWord_23 rfl rfl ?_
    refine fb_iastore (a := S.length) (n := 6) (pc := 25) dX12_isWord_25 rfl hA (by decide) ?_
    refine fb_dup (pc := 26) dX12_isWord_26 pm_t2 ?_
    refine fb_iconst (pc := 27) dX12_isWord_27 (by decide) ?_
    refine fb_iload (pc := 28) dX12_isWord_28 rfl rfl ?_
    refine fb_iastore (a := S.length) (n := 6) (pc := 30) dX12_isWord_30 rfl hA (by decide) ?_
    rw [← hN6]
    show FbX sc d mX12_isWord 31 _ _ (S ++ [(14, 6)]) N6 _
    refine fb_astore (ls2 := [(2, 142), (0, a1), (0, a2), (0, a3), (0, a4), (0, a5), (0, a6), (2, (S.length : Int)), (9, 0), (9, 0)]) (pc := 31) dX12_isWord_31 (pm_isA_nat _) (Nat.le_of_ble_eq_true rfl) rfl ?_
    refine fb_aload_n (pc := 33) dX12_isWord_33 rfl rfl ?_
    refine fb_getf hS1 hAg (a := 142) (i := 6) (pc := 34) dX12_isWord_34 rfl pf_12_144 rfl s0_142 rfl htk ?_
    refine fb_iconst (pc := 37) dX12_isWord_37 (by decide) ?_
    refine fb_icmT (tg := 59) (pc := 38) dX12_isWord_38 (decide_eq_true hne) rfl ?_
    refine fb_iconst (pc := 59) dX12_isWord_59 (by decide) ?_
    refine fb_istore (ls2 := [(2, 142), (0, a1), (0, a2), (0, a3), (0, a4), (0, a5), (0, a6), (2, (S.length : Int)), (0, 0), (9, 0)]) (pc := 60) dX12_isWord_60 rfl (Nat.le_of_ble_eq_true rfl) rfl ?_
    refine fb_iconst (pc := 62) dX12_isWord_62 (by decide) ?_
    refine fb_istore (ls2 := [(2, 142), (0, a1), (0, a2), (0, a3), (0, a4), (0, a5), (0, a6), (2, (S.length : Int)), (0, 0), (0, 0)]) (pc := 63) dX12_isWord_63 rfl (Nat.le_of_ble_eq_true rfl) rfl ?_
    refine fb_iload (pc := 65) dX12_isWord_65 rfl rfl ?_
    refine fb_bipush (pc := 67) dX12_isWord_67 (by decide) ?_
    refine fb_icmF (tg := 127) (pc := 69) dX12_isWord_69 (by decide) rfl ?_
    refine fb_iload (pc := 72) dX12_isWord_72 rfl rfl ?_
    refine fb_ifcT (tg := 127) (pc := 74) dX12_isWord_74 (by decide) rfl ?_
    refine fb_iload (pc := 127) dX12_isWord_127 rfl rfl ?_
    exact fb_iret (pc := 129) dX12_isWord_129 (Or.inr (Or.inl ⟨rfl, Or.inl rfl⟩)) ⟨rfl, rfl, rfl⟩
  obtain ⟨m, r, S', N', e, e1, e2, e3⟩ := run
  subst e1; subst e2
  refine ⟨m, r, _, _, M, e, hS1, hAg, ?_, ?_, hl, 0, e3, h0⟩
  · rw [List.length_append]; show S.length + 1 ≤ _; omega
  · rw [pm_szA]; show pm_sz S + 6 ≤ _; omega
/-- the letters of a word -/
def WD (u : Int → Int) (s : Sc) : Prop := s.2.2.1 = 2 → ∀ k, s.2.1 ≤ k → k < s.1 → 97 ≤ u k
theorem WD.no {u : Int → Int} {s : Sc} (h : ¬ s.2.2.1 = 2) : WD u s := fun z => absurd z h
theorem WD.av {u : Int → Int} {N : Int} {s : Sc} (h : SK N s) (hw : WD u s) : WD u (adv u N s) := by
  unfold adv
  by_cases z : s.2.2.2.2 = 0
  case neg => rw [if_neg z]; exact hw
  rw [if_pos z]
  intro ht
  simp only [] at ht ⊢
  have hp := h.1
  have hs := sk_rng (u := u) (N := N) _ s.1 (Nat.le_refl _) (by omega) hp.2.2
  generalize sk u N s.1 = p at *
  unfold tok at ht ⊢
  by_cases a : N ≤ p
  · rw [if_pos a] at ht; exact absurd ht (by show ¬ (0 : Int) = 2; decide)
  rw [if_neg a] at ht ⊢
  by_cases b : 97 ≤ u p ∧ u p ≤ 122
  · rw [if_pos b]
    intro k k0 k1
    exact ((wx_rng (u := u) (N := N) _ p (Nat.le_refl _) (by omega) (by omega)).2.2 k k0 k1).1
  rw [if_neg b] at ht ⊢
  by_cases c : 48 ≤ u p ∧ u p ≤ 57
  · rw [if_pos c] at ht
    simp only [] at ht
    split at ht <;> omega
  rw [if_neg c] at ht
  exfalso
  unfold tsg at ht
  split at ht
  · exact absurd ht (by show ¬ (4 : Int) = 2; decide)
  split at ht
  · exact absurd ht (by show ¬ (4 : Int) = 2; decide)
  split at ht
  · exact absurd ht (by show ¬ (5 : Int) = 2; decide)
  · exact absurd ht (by show ¬ (1 : Int) = 2; decide)
theorem WD.rf {u : Int → Int} {k : Int} {s : Sc} (hw : WD u s) : WD u (refu s k) := by
  unfold refu
  by_cases z : s.2.2.2.2 = 0
  · rw [if_pos z]; exact WD.no (by show ¬ (1 : Int) = 2; decide)
  · rw [if_neg z]; exact hw
theorem WD.xm {u : Int → Int} {N c : Int} {s : Sc} (h : SK N s) (hw : WD u s) : WD u (exm u N c s) := by
  unfold exm
  by_cases y : s.2.2.1 = 5 ∧ s.2.2.2.1 = c
  · rw [if_pos y]; exact hw.av h
  · rw [if_neg y]; exact (hw.rf).av (h.refuk (by decide))
theorem WD.rx {u : Int → Int} {N : Int} : ∀ (f : Nat) (lev d : Int) (S : Ps), GP N S → WD u S.1 → WD u (rx u N f lev d S).1 := by
  intro f
  induction f with
  | zero => intro lev d S _ h; exact h
  | succ f ih =>
    intro lev d S hG h
    by_cases h0 : S.1.2.2.2.2 = 0
    case neg => rw [rx_dead _ _ _ _ h0 (hG.1.2.1 h0)]; exact h
    have hl := hG.2
    rw [if_pos h0] at hl
    unfold Jvm.Pilot.CProgramMenderLaw_law_r5342_e81779.rx
    by_cases h2 : lev ≤ 2
    · rw [if_pos h2]
      have loop : ∀ (n : Nat) (S1 : Ps), Gd N S S1 → WD u S1.1 → WD u (lpf (Jvm.Pilot.CProgramMenderLaw_law_r5342_e81779.rx u N f (lev + 1) d) u N lev S.2.length n S1).1 := by
        intro n
        induction n with
        | zero => intro S1 _ h1; exact h1
        | succ n ihn =>
          intro S1 g1 h1
          by_cases hs : S1.1.2.2.1 = 4 ∧ lvl S1.1.2.2.2.1 = lev
          · rw [lpf_next hs]
            have hf1 : S1.1.2.2.2.2 = 0 := Decidable.byContradiction (fun z => by have := g1.1.2.1 z; omega)
            have hl1 := g1.2.2
            rw [if_pos hf1] at hl1
            have hi := ins_len (x := (7, S1.1.2.2.2.1)) g1.2.1
            have g2 := Gd.tk (u := u) (l := ins S1.2 S.2.length (7, S1.1.2.2.2.1)) g1.1 hl1 hf1 (by omega) (by omega)
            have g3 := rx_Gd (u := u) f (lev + 1) d (adv u N S1.1, ins S1.2 S.2.length (7, S1.1.2.2.2.1)) g2.1 g2.2.2
            have hle := g3.2.1
            have hle1 := g1.2.1
            simp only [] at hle
            exact ihn _ ⟨g3.1, by omega, g3.2.2⟩ (ih (lev + 1) d _ ⟨g2.1, g2.2.2⟩ (h1.av g1.1))
          · rw [lpf_stop hs]; exact h1
      exact loop _ _ (rx_Gd (u := u) f (lev + 1) d S hG.1 hG.2) (ih (lev + 1) d S hG h)
    rw [if_neg h2]
    by_cases a : ((S.1.2.2.1 = 5 ∧ S.1.2.2.2.1 = 40) ∨ (S.1.2.2.1 = 4 ∧ S.1.2.2.2.1 = 1)) ∧ 8 ≤ d
    · rw [if_pos a]; exact h.rf
    rw [if_neg a]
    by_cases b : S.1.2.2.1 = 5 ∧ S.1.2.2.2.1 = 40
    · rw [if_pos b]
      have g1 := Gd.tk (u := u) (l := S.2) hG.1 hl h0 (by omega) (by omega)
      have g2 := rx_Gd (u := u) f 0 (d + 1) (adv u N S.1, S.2) g1.1 g1.2.2
      exact (ih 0 (d + 1) (adv u N S.1, S.2) ⟨g1.1, g1.2.2⟩ (h.av hG.1)).xm g2.1
    rw [if_neg b]
    by_cases c : S.1.2.2.1 = 4 ∧ S.1.2.2.2.1 = 1
    · rw [if_pos c]
      have g1 := Gd.tk (u := u) (l := S.2 ++ [(6, 0)]) hG.1 hl h0 (by omega) (by simp)
      exact ih 3 (d + 1) (adv u N S.1, S.2 ++ [(6, 0)]) ⟨g1.1, g1.2.2⟩ (h.av hG.1)
    rw [if_neg c]
    by_cases e : S.1.2.2.1 = 3
    · rw [if_pos e]; exact h.av hG.1
    rw [if_neg e]
    by_cases g : ¬ vr u S.1 = -1
    · rw [if_pos g]; exact h.av hG.1
    · rw [if_neg g]; exact h.rf
theorem gdO {w : List Int} {i : Nat} (h : w.length ≤ i) : w.getD i 0 = 0 := by
  rw [List.getD_eq_getElem?_getD, List.getElem?_eq_none h]; rfl
theorem rword_r {c : Nat} {L : Int → Int} {n : Int} {s : Sc} {M : pm_M} {w : List Int} {a1 a2 a3 a4 a5 a6 : Int} {K : Int → pm_M → Prop} (hc : 1 ≤ c) (hT : TpR L n M) (hr : Hr s M) (hk : SK n s) (hD : WD (ub L) s) (hw6 : w.length ≤ 6) (hwr : ∀ i : Nat, i < 6 → [a1, a2, a3, a4, a5, a6].getD i 0 = w.getD i 0) (hw0 : ∀ i : Nat, i < w.length → ¬ w.getD i 0 = 0) (hK : K (if wdb (ub L) s w = true then 1 else 0) M) : k12_isWord c a1 a2 a3 a4 a5 a6 M K := by
  have hp := hk.1
  refine rword0_r hc hT hr hk (fun h1 h2 h3 => ?_) (fun h => ?_)
  · have hlen : s.1 - s.2.1 = (w.length : Int) := by
      by_cases q : s.1 - s.2.1 < (w.length : Int)
      · exfalso
        have h4 := h3 (s.1 - s.2.1).toNat (by omega)
        rw [hwr _ (by omega)] at h4
        unfold bw at h4
        rw [if_neg (by omega)] at h4
        exact hw0 _ (by omega) h4.symm
      by_cases q' : (w.length : Int) < s.1 - s.2.1
      · exfalso
        have h4 := h3 w.length (by omega)
        rw [hwr _ (by omega), gdO (Nat.le_refl _)] at h4
        unfold bw at h4
        rw [if_pos q'] at h4
        have := hD h1 (s.2.1 + (w.length : Int)) (by omega) (by omega)
        omega
      · omega
    rw [if_pos (wdb_iff.mpr ⟨h1, hlen, fun i hi => ?_⟩)] at hK
    · exact hK
    · have h4 := h3 i (by omega)
      rw [hwr _ (by omega)] at h4
      unfold bw at h4
      rw [if_pos (by omega)] at h4
      exact h4
  · rw [if_neg (fun z => h ?_)] at hK
    · exact hK
    · obtain ⟨z1, z2, z3⟩ := wdb_iff.mp z
      refine ⟨z1, by omega, fun i hi => ?_⟩
      rw [hwr i hi]
      unfold bw
      by_cases q : (i : Int) < s.1 - s.2.1
      · rw [if_pos q]; exact z3 i (by omega)
      · rw [if_neg q, gdO (by omega)]

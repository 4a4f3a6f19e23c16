-- needs 30 31 32 33a 33b 33c 33d 33e 33f 33g 33h 33i 33j 40 41 42 43 44 45 46 50 51 52 53 54 79a 79aa 79b 79c 79d 79e 79g 79h 79i 79j
/-! the reference reads an expression as the list is read -/
def QP (L : Int → Int) (N : Int) (f : Nat) : Prop := ∀ (d : Int) (S : Ps) (M : pm_M) (K : Int → pm_M → Prop) (h : Nat) (p : Int), 0 ≤ d → d ≤ 8 → 4 * (8 - d) + 1 ≤ f → 23 + 4 * (8 - d) ≤ h → LV L N d S M → p < (S.2.length : Int) → RO L N S.2.length p d (rx (ub L) N f 3 d S) M K → k12_part h p M K
def QT (L : Int → Int) (N : Int) (f : Nat) : Prop := ∀ (d : Int) (S : Ps) (M : pm_M) (K : Int → pm_M → Prop) (h : Nat) (p : Int), 0 ≤ d → d ≤ 8 → 4 * (8 - d) + 2 ≤ f → 24 + 4 * (8 - d) ≤ h → LV L N d S M → p < (S.2.length : Int) → RO L N S.2.length p d (rx (ub L) N f 2 d S) M K → k12_term h p M K
def QS (L : Int → Int) (N : Int) (f : Nat) : Prop := ∀ (d : Int) (S : Ps) (M : pm_M) (K : Int → pm_M → Prop) (h : Nat) (p : Int), 0 ≤ d → d ≤ 8 → 4 * (8 - d) + 3 ≤ f → 25 + 4 * (8 - d) ≤ h → LV L N d S M → p < (S.2.length : Int) → RO L N S.2.length p d (rx (ub L) N f 1 d S) M K → k12_sum h p M K
def QX (L : Int → Int) (N : Int) (f : Nat) : Prop := ∀ (d : Int) (S : Ps) (M : pm_M) (K : Int → pm_M → Prop) (h : Nat) (p : Int), 0 ≤ d → d ≤ 8 → 4 * (8 - d) + 4 ≤ f → 26 + 4 * (8 - d) ≤ h → LV L N d S M → p < (S.2.length : Int) → RO L N S.2.length p d (rx (ub L) N f 0 d S) M K → k12_e h p M K
theorem LV.gd {L : Int → Int} {N d : Int} {S : Ps} {M : pm_M} (h : LV L N d S M) (f : Nat) (lev d' : Int) : Gd N S (rx (ub L) N f lev d' S) := rx_Gd f lev d' S h.2.2.2.2.2.1 (by rw [if_pos h.2.2.2.2.1]; exact h.2.2.2.2.2.2.1)
theorem lpf_dead {g : Ps → Ps} {u : Int → Int} {N lev : Int} {k n : Nat} {S : Ps} (h : S.1.2.2.1 = 1) : lpf g u N lev k n S = S := lpf_stop (fun z => by omega)
/-- two sides under a sign -/
theorem XB.two {M : pm_M} {k m e : Int} {g g' : Nat} (h5 : gI M 145 (100 + k) = 7) (h8 : gI M 148 (100 + k) = k + 1) (h9 : gI M 149 (100 + k) = m) (h7 : gI M 147 (100 + (k + 1)) = k) (h7' : gI M 147 (100 + m) = k) (x1 : XB M g (k + 1) (m - 1)) (x2 : XB M g' m e) : ∃ g'', XB M g'' k e := by
  refine ⟨g + g' + 1, Or.inr (Or.inr ⟨h5, h8, h7, ?_, ?_, ?_⟩)⟩
  · rw [h9]; exact h7'
  · rw [h9]; exact x1.mono (by omega)
  · rw [h9]; exact x2.mono (by omega)
/-- the right side read behind a joined left one -/
theorem right_x {p : Int} {M2 M3 : pm_M} {S1 S3 : Ps} {k g : Nat} (hk : k < S1.2.length) (f3 : Fr (qE (S1.2.length + 1)) M2 M3) (b5 : gI M2 145 (100 + (k : Int)) = 7) (b8 : gI M2 148 (100 + (k : Int)) = (k : Int) + 1) (b9 : gI M2 149 (100 + (k : Int)) = (S1.2.length : Int) + 1) (b7 : gI M2 147 (100 + ((k : Int) + 1)) = (k : Int)) (x2 : XB M2 g ((k : Int) + 1) (S1.2.length : Int)) (c7 : gI M3 147 (100 + ((S1.2.length + 1 : Nat) : Int)) = (k : Int)) (x3 : ∃ g, XB M3 g ((S1.2.length + 1 : Nat) : Int) ((S3.2.length : Int) - 1)) (a7 : gI M2 147 (100 + (k : Int)) = p) : gI M3 147 (100 + (k : Int)) = p ∧ ∃ g, XB M3 g (k : Int) ((S3.2.length : Int) - 1) := by
  have o : ∀ a i, 145 ≤ a → a ≤ 149 → 0 ≤ i → i ≤ (S1.2.length : Int) → gI M3 a (100 + i) = gI M2 a (100 + i) := fun a i a1 a2 i0 i1 => f3.g (by simp [qE]; omega)
  obtain ⟨g3, x3⟩ := x3
  have y2 : XB M3 g ((k : Int) + 1) (S1.2.length : Int) := x2.same (fun j j0 j1 => ⟨o 145 j (by decide) (by decide) (by omega) j1, o 148 j (by decide) (by decide) (by omega) j1, o 149 j (by decide) (by decide) (by omega) j1⟩) (fun j j0 j1 => o 147 j (by decide) (by decide) (by omega) j1)
  have e : ((S1.2.length + 1 : Nat) : Int) = (S1.2.length : Int) + 1 := by omega
  rw [e] at c7 x3
  have z5 := o 145 k (by decide) (by decide) (by omega) (by omega)
  have z8 := o 148 k (by decide) (by decide) (by omega) (by omega)
  have z9 := o 149 k (by decide) (by decide) (by omega) (by omega)
  have z7 := o 147 k (by decide) (by decide) (by omega) (by omega)
  have z7' := o 147 ((k : Int) + 1) (by decide) (by decide) (by omega) (by omega)
  refine ⟨z7.trans a7, XB.two (g := g) (z5.trans b5) (z8.trans b8) (z9.trans b9) (z7'.trans b7) c7 ?_ x3⟩
  rw [show (S1.2.length : Int) + 1 - 1 = (S1.2.length : Int) by omega]; exact y2
theorem rqT {L : Int → Int} {N : Int} {f : Nat} (iP : QP L N f) : QT L N (f + 1) := by
  intro d S M K h p d0 d8 hm hh hv hp hO
  have hrx : rx (ub L) N (f + 1) 2 d S = lpf (rx (ub L) N f 3 d) (ub L) N 2 S.2.length 600 (rx (ub L) N f 3 d S) := by
    conv => lhs; unfold rx
    rw [if_pos (by decide)]
    rfl
  rw [hrx] at hO
  have n6 := hv.1.1.2.1.2
  have loop : ∀ (n : Nat) (S1 : Ps) (M1 : pm_M), LV L N d S1 M1 → S.2.length < S1.2.length → 601 - (S1.2.length : Int) ≤ n → Fr (qE S.2.length) M M1 → gI M1 147 (100 + (S.2.length : Int)) = p → (∃ g, XB M1 g (S.2.length : Int) ((S1.2.length : Int) - 1)) → RO L N S.2.length p d (lpf (rx (ub L) N f 3 d) (ub L) N 2 S.2.length n S1) M K → k12_term_11 h p (S.2.length : Int) 1 M1 K := by
    intro n
    induction n with
    | zero =>
      intro S1 M1 lv1 hlt hn
      have := lv1.2.2.2.2.2.2.1
      have := lv1.2.2.2.2.2.1.1
      omega
    | succ n ihn =>
      intro S1 M1 lv1 hlt hn f1 a7 hX hO1
      apply k12_term_11_r (by omega)
      rw [if_neg (by decide)]
      refine isOf_r (N := N) lv1.1.2.1 lv1.2.2.2.2.2.1 (by decide) ?_ ?_
      · intro t4 v2 v4
        rw [if_neg (by decide)]
        have hs : S1.1.2.2.1 = 4 ∧ lvl S1.1.2.2.2.1 = 2 := ⟨t4, by unfold lvl; rw [if_pos (by omega), if_neg (by omega)]⟩
        rw [lpf_next hs] at hO1
        obtain ⟨g, hX⟩ := hX
        refine joins_r lv1 hlt hp hX t4 ?_ ?_
        · intro z M2 f2 lv2 c7 b5 b8 b9 b7 x2
          have hlen := ins_len (x := (7, S1.1.2.2.2.1)) (show S.2.length ≤ S1.2.length by omega)
          have g3 := lv2.gd f 3 d
          refine iP d _ M2 _ (h - 1) (S.2.length : Int) d0 d8 (by omega) (by omega) lv2 (by simp only []; rw [hlen]; omega) ⟨?_, ?_⟩
          · intro z3 M3 f3 lv3 e7 x3
            simp only [hlen] at f3 e7 x3
            obtain ⟨y7, y⟩ := right_x hlt f3 b5 b8 b9 b7 x2 e7 x3 c7
            have hle := g3.2.1
            simp only [hlen] at hle
            exact ihn _ M3 lv3 (by omega) (by omega) ((f1.trans f2).trans (f3.mono (fun a i h => qE_mono (by omega) h))) y7 y hO1
          · intro z3
            rw [lpf_dead (g3.1.2.1 z3)] at hO1
            obtain ⟨o1, o2⟩ := hO1.2 z3
            refine ⟨fun M3 f3 e8 => ?_, fun M3 f3 t3 p3 e3 => ?_⟩
            · simp only [hlen] at f3
              apply k12_term_11_r (by omega)
              rw [if_pos rfl]
              exact ⟨Or.inl rfl, o1 M3 ((f1.trans f2).trans (f3.mono (fun a i h => qE_mono (by omega) h))) e8⟩
            · simp only [hlen] at f3
              apply k12_term_11_r (by omega)
              rw [if_neg (by decide)]
              apply k12_isOf_r
              rw [p3.1, if_neg (by decide), if_pos rfl]
              exact ⟨Or.inr rfl, o2 M3 ((f1.trans f2).trans (f3.mono (fun a i h => qE_mono (by omega) h))) t3 p3 e3⟩
        · intro z M2 f2 t2 p2 e2
          refine pnd_part (by omega) t2 p2 ?_
          have t1 := (adv_f lv1.2.2.2.2.1 z).1
          rw [rx_dead _ _ _ _ z t1, lpf_dead t1] at hO1
          apply k12_term_11_r (by omega)
          rw [if_pos rfl]
          refine ⟨Or.inl rfl, (hO1.2 z).1 _ ((f1.trans f2).up _ (by simp [qE])) ?_⟩
          rw [gI_eq]; exact e2.symm
      · intro hno
        rw [if_pos rfl]
        have hns : ¬ (S1.1.2.2.1 = 4 ∧ lvl S1.1.2.2.2.1 = 2) := fun z => hno ⟨z.1, by
          have hr := lv1.2.2.2.2.2.1.2.2.2.2.1 z.1
          have hz := z.2
          unfold lvl at hz
          repeat' split at hz
          all_goals omega⟩
        rw [lpf_stop hns] at hO1
        exact ⟨Or.inr rfl, hO1.1 lv1.2.2.2.2.1 M1 f1 lv1 a7 hX⟩
  have g1 := hv.gd f 3 d
  apply k12_term_r (by omega)
  rw [hv.1.2.2.1]
  refine iP d S M _ (h - 1) p d0 d8 (by omega) (by omega) hv hp ⟨?_, ?_⟩
  · intro z1 M1 f1 lv1 a7 hX
    have hlt : S.2.length < (rx (ub L) N f 3 d S).2.length := by
      obtain ⟨g, hX⟩ := hX
      have := hX.le
      omega
    exact loop 600 _ M1 lv1 hlt (by omega) f1 a7 hX hO
  · intro z1
    rw [lpf_dead (g1.1.2.1 z1)] at hO
    obtain ⟨o1, o2⟩ := hO.2 z1
    refine ⟨fun M1 f1 e8 => ?_, fun M1 f1 t1 p1 e1 => ?_⟩
    · apply k12_term_11_r (by omega)
      rw [if_pos rfl]
      exact ⟨Or.inl rfl, o1 M1 f1 e8⟩
    · apply k12_term_11_r (by omega)
      rw [if_neg (by decide)]
      apply k12_isOf_r
      rw [p1.1, if_neg (by decide), if_pos rfl]
      exact ⟨Or.inr rfl, o2 M1 f1 t1 p1 e1⟩
theorem rqS {L : Int → Int} {N : Int} {f : Nat} (iP : QT L N f) : QS L N (f + 1) := by
  intro d S M K h p d0 d8 hm hh hv hp hO
  have hrx : rx (ub L) N (f + 1) 1 d S = lpf (rx (ub L) N f 2 d) (ub L) N 1 S.2.length 600 (rx (ub L) N f 2 d S) := by
    conv => lhs; unfold rx
    rw [if_pos (by decide)]
    rfl
  rw [hrx] at hO
  have n6 := hv.1.1.2.1.2
  have loop : ∀ (n : Nat) (S1 : Ps) (M1 : pm_M), LV L N d S1 M1 → S.2.length < S1.2.length → 601 - (S1.2.length : Int) ≤ n → Fr (qE S.2.length) M M1 → gI M1 147 (100 + (S.2.length : Int)) = p → (∃ g, XB M1 g (S.2.length : Int) ((S1.2.length : Int) - 1)) → RO L N S.2.length p d (lpf (rx (ub L) N f 2 d) (ub L) N 1 S.2.length n S1) M K → k12_sum_11 h p (S.2.length : Int) 1 M1 K := by
    intro n
    induction n with
    | zero =>
      intro S1 M1 lv1 hlt hn
      have := lv1.2.2.2.2.2.2.1
      have := lv1.2.2.2.2.2.1.1
      omega
    | succ n ihn =>
      intro S1 M1 lv1 hlt hn f1 a7 hX hO1
      apply k12_sum_11_r (by omega)
      rw [if_neg (by decide)]
      refine isOf_r (N := N) lv1.1.2.1 lv1.2.2.2.2.2.1 (by decide) ?_ ?_
      · intro t4 v2 v4
        rw [if_neg (by decide)]
        have hs : S1.1.2.2.1 = 4 ∧ lvl S1.1.2.2.2.1 = 1 := ⟨t4, by unfold lvl; rw [if_pos (by omega), if_pos (by omega)]⟩
        rw [lpf_next hs] at hO1
        obtain ⟨g, hX⟩ := hX
        refine joins_r lv1 hlt hp hX t4 ?_ ?_
        · intro z M2 f2 lv2 c7 b5 b8 b9 b7 x2
          have hlen := ins_len (x := (7, S1.1.2.2.2.1)) (show S.2.length ≤ S1.2.length by omega)
          have g3 := lv2.gd f 2 d
          refine iP d _ M2 _ (h - 1) (S.2.length : Int) d0 d8 (by omega) (by omega) lv2 (by simp only []; rw [hlen]; omega) ⟨?_, ?_⟩
          · intro z3 M3 f3 lv3 e7 x3
            simp only [hlen] at f3 e7 x3
            obtain ⟨y7, y⟩ := right_x hlt f3 b5 b8 b9 b7 x2 e7 x3 c7
            have hle := g3.2.1
            simp only [hlen] at hle
            exact ihn _ M3 lv3 (by omega) (by omega) ((f1.trans f2).trans (f3.mono (fun a i h => qE_mono (by omega) h))) y7 y hO1
          · intro z3
            rw [lpf_dead (g3.1.2.1 z3)] at hO1
            obtain ⟨o1, o2⟩ := hO1.2 z3
            refine ⟨fun M3 f3 e8 => ?_, fun M3 f3 t3 p3 e3 => ?_⟩
            · simp only [hlen] at f3
              apply k12_sum_11_r (by omega)
              rw [if_pos rfl]
              exact ⟨Or.inl rfl, o1 M3 ((f1.trans f2).trans (f3.mono (fun a i h => qE_mono (by omega) h))) e8⟩
            · simp only [hlen] at f3
              apply k12_sum_11_r (by omega)
              rw [if_neg (by decide)]
              apply k12_isOf_r
              rw [p3.1, if_neg (by decide), if_pos rfl]
              exact ⟨Or.inr rfl, o2 M3 ((f1.trans f2).trans (f3.mono (fun a i h => qE_mono (by omega) h))) t3 p3 e3⟩
        · intro z M2 f2 t2 p2 e2
          refine pnd_term (by omega) t2 p2 ?_
          have t1 := (adv_f lv1.2.2.2.2.1 z).1
          rw [rx_dead _ _ _ _ z t1, lpf_dead t1] at hO1
          apply k12_sum_11_r (by omega)
          rw [if_pos rfl]
          refine ⟨Or.inl rfl, (hO1.2 z).1 _ ((f1.trans f2).up _ (by simp [qE])) ?_⟩
          rw [gI_eq]; exact e2.symm
      · intro hno
        rw [if_pos rfl]
        have hns : ¬ (S1.1.2.2.1 = 4 ∧ lvl S1.1.2.2.2.1 = 1) := fun z => hno ⟨z.1, by
          have hr := lv1.2.2.2.2.2.1.2.2.2.2.1 z.1
          have hz := z.2
          unfold lvl at hz
          repeat' split at hz
          all_goals omega⟩
        rw [lpf_stop hns] at hO1
        exact ⟨Or.inr rfl, hO1.1 lv1.2.2.2.2.1 M1 f1 lv1 a7 hX⟩
  have g1 := hv.gd f 2 d
  apply k12_sum_r (by omega)
  rw [hv.1.2.2.1]
  refine iP d S M _ (h - 1) p d0 d8 (by omega) (by omega) hv hp ⟨?_, ?_⟩
  · intro z1 M1 f1 lv1 a7 hX
    have hlt : S.2.length < (rx (ub L) N f 2 d S).2.length := by
      obtain ⟨g, hX⟩ := hX
      have := hX.le
      omega
    exact loop 600 _ M1 lv1 hlt (by omega) f1 a7 hX hO
  · intro z1
    rw [lpf_dead (g1.1.2.1 z1)] at hO
    obtain ⟨o1, o2⟩ := hO.2 z1
    refine ⟨fun M1 f1 e8 => ?_, fun M1 f1 t1 p1 e1 => ?_⟩
    · apply k12_sum_11_r (by omega)
      rw [if_pos rfl]
      exact ⟨Or.inl rfl, o1 M1 f1 e8⟩
    · apply k12_sum_11_r (by omega)
      rw [if_neg (by decide)]
      apply k12_isOf_r
      rw [p1.1, if_neg (by decide), if_pos rfl]
      exact ⟨Or.inr rfl, o2 M1 f1 t1 p1 e1⟩

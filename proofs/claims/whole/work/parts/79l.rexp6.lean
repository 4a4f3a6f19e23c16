-- needs 30 31 32 33a 33b 33c 33d 33e 33f 33g 33h 33i 33j 40 41 42 43 44 45 46 50 51 52 53 54 79a 79aa 79b 79c 79d 79e 79g 79h 79i 79j 79k
/-! the reference reads comparings -/
theorem rqX {L : Int → Int} {N : Int} {f : Nat} (iS : QS L N f) : QX L N (f + 1) := by
  intro d S M K h p d0 d8 hm hh hv hp hO
  have hrx : rx (ub L) N (f + 1) 0 d S = lpf (rx (ub L) N f 1 d) (ub L) N 0 S.2.length 1 (rx (ub L) N f 1 d S) := by
    conv => lhs; unfold rx
    rw [if_pos (by decide)]
    rfl
  rw [hrx] at hO
  have g1 := hv.gd f 1 d
  generalize hS1 : rx (ub L) N f 1 d S = S1 at *
  apply k12_e_r (by omega)
  refine iS d S M _ (h - 1) p d0 d8 (by omega) (by omega) hv hp ?_
  rw [hS1]
  refine ⟨?_, ?_⟩
  · intro z1 M1 f1 lv1 a7 hX
    rw [if_neg (by decide), hv.1.2.2.1]
    have hlt : S.2.length < S1.2.length := by
      obtain ⟨g, hX⟩ := hX
      have := hX.le
      omega
    refine isOf_r (N := N) lv1.1.2.1 lv1.2.2.2.2.2.1 (by decide) ?_ ?_
    · intro t4 v2 v4
      rw [if_neg (by decide)]
      have hs : S1.1.2.2.1 = 4 ∧ lvl S1.1.2.2.2.1 = 0 := ⟨t4, by unfold lvl; rw [if_neg (by omega)]⟩
      rw [lpf_next hs] at hO
      obtain ⟨g, hX⟩ := hX
      refine joins_r lv1 hlt hp hX t4 ?_ ?_
      · intro z M2 f2 lv2 c7 b5 b8 b9 b7 x2
        have hlen := ins_len (x := (7, S1.1.2.2.2.1)) (show S.2.length ≤ S1.2.length by omega)
        have g3 := lv2.gd f 1 d
        refine iS d _ M2 _ (h - 1) (S.2.length : Int) d0 d8 (by omega) (by omega) lv2 (by simp only []; rw [hlen]; omega) ⟨?_, ?_⟩
        · intro z3 M3 f3 lv3 e7 x3
          simp only [hlen] at f3 e7 x3
          obtain ⟨y7, y⟩ := right_x hlt f3 b5 b8 b9 b7 x2 e7 x3 c7
          exact ⟨Or.inr rfl, hO.1 z3 M3 ((f1.trans f2).trans (f3.mono (fun a i h => qE_mono (by omega) h))) lv3 y7 y⟩
        · intro z3
          obtain ⟨o1, o2⟩ := hO.2 z3
          refine ⟨fun M3 f3 e8 => ?_, fun M3 f3 t3 p3 e3 => ?_⟩
          · simp only [hlen] at f3
            exact ⟨Or.inl rfl, o1 M3 ((f1.trans f2).trans (f3.mono (fun a i h => qE_mono (by omega) h))) e8⟩
          · simp only [hlen] at f3
            exact ⟨Or.inr rfl, o2 M3 ((f1.trans f2).trans (f3.mono (fun a i h => qE_mono (by omega) h))) t3 p3 e3⟩
      · intro z M2 f2 t2 p2 e2
        refine pnd_sum (by omega) t2 p2 ?_
        have t1 := (adv_f lv1.2.2.2.2.1 z).1
        rw [rx_dead _ _ _ _ z t1, lpf_dead t1] at hO
        refine ⟨Or.inl rfl, (hO.2 z).1 _ ((f1.trans f2).up _ (by simp [qE])) ?_⟩
        rw [gI_eq]; exact e2.symm
    · intro hno
      rw [if_pos rfl]
      have hns : ¬ (S1.1.2.2.1 = 4 ∧ lvl S1.1.2.2.2.1 = 0) := fun z => hno ⟨z.1, by
        have hr := lv1.2.2.2.2.2.1.2.2.2.2.1 z.1
        have hz := z.2
        unfold lvl at hz
        repeat' split at hz
        all_goals omega⟩
      rw [lpf_stop hns] at hO
      exact ⟨Or.inr rfl, hO.1 z1 M1 f1 lv1 a7 hX⟩
  · intro z1
    rw [lpf_dead (g1.1.2.1 z1)] at hO
    obtain ⟨o1, o2⟩ := hO.2 z1
    refine ⟨fun M1 f1 e8 => ?_, fun M1 f1 t1 p1 e1 => ?_⟩
    · show (if (0 : Int) = 0 then _ else _)
      rw [if_pos rfl]
      exact ⟨Or.inl rfl, o1 M1 f1 e8⟩
    · show (if (1 : Int) = 0 then _ else _)
      rw [if_neg (by decide)]
      apply k12_isOf_r
      rw [p1.1, if_neg (by decide), if_pos rfl]
      exact ⟨Or.inr rfl, o2 M1 f1 t1 p1 e1⟩

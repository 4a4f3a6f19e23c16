/-! the other reader: a whole text -/
theorem tk0 {t : Int} (h : 0 ≤ t ∧ t ≤ 5) : tkR t = 0 ↔ t = 0 := by
  unfold tkR
  constructor
  · intro h
    split at h
    · assumption
    split at h
    · omega
    split at h
    · omega
    split at h <;> omega
  · intro h; rw [h]; decide
theorem rowT {L : Int → Int} {N : Int} {M : pm_M} {K : Int → pm_M → Prop} {c : Nat} (hc : 153 ≤ c) (hN : 0 ≤ N) (lq : LQ L N 0 (Q0 (ub L) N) M)
    (hA : (prg (ub L) N).1.1.2.2.2.2 = 0 → ∀ M', Fr (qS 0) M M' → LQ L N 0 (prg (ub L) N) M' → RP2 (-1) 0 0 150 [] (prg (ub L) N) M' → K 1 M')
    (hD : ¬ (prg (ub L) N).1.1.2.2.2.2 = 0 → ∀ M', Fr (qS 0) M M' → gI M' 142 8 = (prg (ub L) N).1.1.2.2.2.2 → K 0 M') : k12_row c 300 150 (-1) 0 M K := by
  have hS := (rstmAll (L := L) (N := N) 5).1
  have hj : J0 (-1) 0 0 [] := ⟨⟨by decide, by decide⟩, fun t ht => absurd ht (by simp), fun t ht => absurd ht (by simp)⟩
  have ok := prg_ok (u := ub L) hN
  -- a statement more
  have stp : ∀ (n : Nat) (Q1 : Qs) (M1 : pm_M) (last : Int) (c1 : Nat), JR L N (-1) 0 0 0 150 [] Q1 M1 last → Fr (qS 0) M M1 → blg (rst (ub L) N 5 (-1) 0 0) n (rst (ub L) N 5 (-1) 0 0 Q1) = prg (ub L) N → 153 ≤ c1 + 7 * Q1.2.length →
      ((rst (ub L) N 5 (-1) 0 0 Q1).1.1.2.2.2.2 = 0 → ∀ M3 c2, JR L N (-1) 0 0 0 150 [] (rst (ub L) N 5 (-1) 0 0 Q1) M3 (Q1.1.2.length : Int) → Fr (qS 0) M M3 → 153 ≤ c2 + 7 * (rst (ub L) N 5 (-1) 0 0 Q1).2.length → k12_row_6 c2 300 150 (-1) 0 (Q1.1.2.length : Int) 1 M3 K) →
      ∃ c8 c9 : Nat, c8 + c9 ≤ c1 ∧ ∀ (T : Int → pm_M → Prop), (∀ r M6, (if r = 0 then k12_row_6 c9 300 150 (-1) 0 (gI M1 142 18) r M6 K else (if last = -1 then k12_row_6 c9 300 150 (-1) 0 (gI M1 142 18) r M6 K else ((0 ≤ w32 (100 + last) ∧ w32 (100 + last) < 800) ∧ k12_row_6 c9 300 150 (-1) 0 (gI M1 142 18) r (upI M6 152 (w32 (100 + last)) (gI M1 142 18)) K))) → T r M6) → k12_statement c8 (300 - 1) (-1) M1 T := by
    intro n Q1 M1 last c1 j f1 eb hc1 nxt
    have j' := j
    obtain ⟨lq1, ⟨w1, op1, pr1, hn0⟩, -, -, -, -, -, hl⟩ := j'
    obtain ⟨⟨⟨hT, hr, hR⟩, hw, e8, e20⟩, ⟨h0, hSk, hle, hWD⟩, e19, e21⟩ := lq1
    clear e8 e20 e19 e21
    have n6 := hT.2.1.2
    have hpp := hSk.1
    have hlast : last = -1 ∨ (0 ≤ last ∧ last < (Q1.1.2.length : Int)) := by
      rcases hl with ⟨y, -⟩ | ⟨t, t1, t2, t3, -⟩
      · exact Or.inl y
      · have := (w1.2.2.2.1 t t1).1; exact Or.inr ⟨by omega, by omega⟩
    clear hl
    have e18 : gI M1 142 18 = (Q1.1.2.length : Int) := hR.1
    have l20 := w1.1.1
    have wr : ∀ (c2 : Nat) (M2 : pm_M), (∀ M3, ((last = -1 ∧ (-1 : Int) < 0 ∧ M3 = M2) ∨ (last = -1 ∧ (0 : Int) ≤ -1 ∧ M3 = upI M2 150 (100 + (-1)) (Q1.1.2.length : Int)) ∨ (¬ last = -1 ∧ M3 = upI M2 152 (100 + last) (Q1.1.2.length : Int))) → k12_row_6 c2 300 150 (-1) 0 (Q1.1.2.length : Int) 1 M3 K) → (if (1 : Int) = 0 then k12_row_6 c2 300 150 (-1) 0 (gI M1 142 18) 1 M2 K else (if last = -1 then k12_row_6 c2 300 150 (-1) 0 (gI M1 142 18) 1 M2 K else ((0 ≤ w32 (100 + last) ∧ w32 (100 + last) < 800) ∧ k12_row_6 c2 300 150 (-1) 0 (gI M1 142 18) 1 (upI M2 152 (w32 (100 + last)) (gI M1 142 18)) K))) := by
      intro c2 M2 hk
      rw [if_neg (by decide), e18]
      by_cases z : last = -1
      · rw [if_pos z]; exact hk _ (Or.inl ⟨z, by decide, rfl⟩)
      · have wl : w32 (100 + last) = 100 + last := w32_id (by omega)
        rw [if_neg z, wl]
        exact ⟨⟨by omega, by omega⟩, hk _ (Or.inr (Or.inr ⟨z, rfl⟩))⟩
    by_cases al : (rst (ub L) N 5 (-1) 0 0 Q1).1.1.2.2.2.2 = 0
    · obtain ⟨m1, m2, m3, w2, op2, pr2, ok2, hk2, hlen⟩ := rst_mem (by decide) (by decide) (by decide) j.1.gp h0 w1 op1 pr1 al
      have l220 := w2.1.1
      refine ⟨7 * (rst (ub L) N 5 (-1) 0 0 Q1).2.length - 7 * Q1.2.length, c1 - (7 * (rst (ub L) N 5 (-1) 0 0 Q1).2.length - 7 * Q1.2.length), by omega, fun T hT' => ?_⟩
      refine hS (-1) 0 0 Q1 M1 _ (300 - 1) _ (by decide) (by decide) (by decide) (by decide) j.1 w1 op1 pr1 (fun _ => by omega) (fun z => absurd al z) (fun _ M2 f2 lq2 rd2 rn2 e2 => hT' 1 M2 ?_) (fun z => absurd al z)
      refine wr _ M2 (fun M3 hM => ?_)
      have j3 := j.step (Or.inl rfl) (by decide) (by decide) (by decide) hj al f2 lq2 rd2 rn2 e2 hM
      have f23 : Fr (qS 0) M M3 := by
        have f12 := f1.trans (f2.mono (fun a i y => qS_mono (Nat.zero_le _) y))
        rcases hM with ⟨-, -, y⟩ | ⟨-, y, -⟩ | ⟨z, y⟩
        · rw [y]; exact f12
        · exact absurd y (by decide)
        · rw [y]; exact f12.up _ (by simp [qS, qE]; omega)
      exact nxt al M3 _ j3 f23 (by omega)
    · have hbs : blg (rst (ub L) N 5 (-1) 0 0) n (rst (ub L) N 5 (-1) 0 0 Q1) = rst (ub L) N 5 (-1) 0 0 Q1 := blg_stop (fun y => al y.1)
      rw [hbs] at eb
      rw [← eb] at hD
      refine ⟨c1 - 3, 3, by omega, fun T hT' => ?_⟩
      refine hS (-1) 0 0 Q1 M1 _ (300 - 1) _ (by decide) (by decide) (by decide) (by decide) j.1 w1 op1 pr1 (fun z => absurd z al) (fun _ => by omega) (fun z => absurd z al) (fun _ => ⟨fun M2 f2 e2 => hT' 0 M2 ?_, fun M2 f2 t2 p2 e2 => hT' 1 M2 ?_⟩)
      · rw [if_pos rfl]
        exact row_end (Or.inl rfl) (by decide) (hD al M2 (f1.trans f2) e2)
      · refine wr 3 M2 (fun M3 hM => ?_)
        have f23 : Fr (fun a _ => a == 152) M2 M3 := by
          rcases hM with ⟨-, -, y⟩ | ⟨-, y, -⟩ | ⟨-, y⟩
          · rw [y]; exact Fr.rf
          · exact absurd y (by decide)
          · rw [y]; exact Fr.rf.up _ rfl
        have f03 : Fr (qS 0) M M3 := by
          have f12 := f1.trans f2
          rcases hM with ⟨-, -, y⟩ | ⟨-, y, -⟩ | ⟨z, y⟩
          · rw [y]; exact f12
          · exact absurd y (by decide)
          · rw [y]; exact f12.up _ (by simp [qS, qE]; omega)
        have p3 : Pnd M3 (rst (ub L) N 5 (-1) 0 0 Q1).1.1.2.1 := ⟨by rw [f23.g rfl]; exact p2.1, by rw [f23.g rfl]; exact p2.2.1, by rw [f23.g rfl]; exact p2.2.2.1, p2.2.2.2⟩
        have t3 : TpR L N M3 := t2.fr f23 rfl (fun _ => rfl)
        apply k12_row_6_r (Or.inl rfl) (by decide)
        rw [if_neg (by decide), if_pos rfl, p3.1, if_neg (by decide)]
        refine ⟨3, 0, by decide, pnd_stm (by decide) (Nat.le_refl _) t3 p3 ?_⟩
        rw [if_pos rfl]
        refine row_end (Or.inl rfl) (by decide) (hD al _ (f03.up _ (by simp [qS, qE])) ?_)
        rw [gI_eq, e2]
  have loop : ∀ (n : Nat) (Q1 : Qs) (M1 : pm_M) (last : Int) (c1 : Nat), JR L N (-1) 0 0 0 150 [] Q1 M1 last → ¬ last = -1 → 21 ≤ Q1.2.length + n → Fr (qS 0) M M1 → blg (rst (ub L) N 5 (-1) 0 0) n Q1 = prg (ub L) N → 153 ≤ c1 + 7 * Q1.2.length → k12_row_6 c1 300 150 (-1) 0 last 1 M1 K := by
    intro n
    induction n with
    | zero =>
      intro Q1 M1 last c1 j hl h21
      have := j.2.1.1.1.1
      omega
    | succ n ih =>
      intro Q1 M1 last c1 j hl h21 f1 eb hc1
      have h0 := j.1.2.1.1
      have hr := j.1.1.1.2.1
      have hSk := j.1.2.1.2.1
      apply k12_row_6_r (Or.inl rfl) (by decide)
      rw [if_neg (by decide), if_pos rfl, hr.2.2.1]
      by_cases t : Q1.1.1.2.2.1 = 0
      · rw [if_pos ((tk0 hSk.2.2.2.2.2.1).mpr t), if_neg hl]
        have eb' : Q1 = prg (ub L) N := by rw [← eb, blg_stop (fun y => y.2 t)]
        rw [← eb'] at hA
        exact ⟨Or.inr rfl, hA h0 M1 f1 j.1 (j.fin hj)⟩
      · rw [if_neg (fun y => t ((tk0 hSk.2.2.2.2.2.1).mp y))]
        rw [blg_next ⟨h0, t⟩] at eb
        obtain ⟨c8, c9, q1, q2⟩ := stp n Q1 M1 last c1 j f1 eb hc1 (fun al M3 c2 j3 f3 hc2 => by
          obtain ⟨-, -, -, -, -, -, -, -, hlen⟩ := rst_mem (by decide) (by decide) (by decide) j.1.gp h0 j.2.1.1 j.2.1.2.1 j.2.1.2.2.1 al
          exact ih _ M3 _ c2 j3 (by omega) (by omega) f3 eb hc2)
        refine ⟨c8, c9, q1, q2 _ (fun r M6 h => ?_)⟩
        rw [if_pos rfl]; exact h
  apply k12_row_r (Or.inl rfl) (by decide)
  have j0 : JR L N (-1) 0 0 0 150 [] (Q0 (ub L) N) M (-1) := ⟨lq, ⟨WLs.nil, fun t ht => absurd ht (by show ¬ t ∈ ([] : List Stm); simp), Or.inl ⟨rfl, rfl⟩, Nat.zero_le _⟩, fun t ht => absurd ht (by show ¬ t ∈ ([] : List Stm); simp), fun t ht => absurd ht (by show ¬ t ∈ ([] : List Stm); simp), fun z => absurd z (by decide), fun t ht => ht, fun t ht => Or.inl ht, Or.inl ⟨rfl, fun t ht => ht⟩⟩
  have hr := lq.1.1.2.1
  have hSk := lq.2.1.2.1
  obtain ⟨c8, c9, q1, q2⟩ := stp 600 (Q0 (ub L) N) M (-1) c j0 Fr.rf rfl (by omega) (fun al M3 c2 j3 f3 hc2 => loop 600 _ M3 _ c2 j3 (by omega) (by omega) f3 rfl hc2)
  apply k12_row_6_r (Or.inl rfl) (by decide)
  rw [if_neg (by decide), if_pos rfl, hr.2.2.1]
  by_cases t : (Q0 (ub L) N).1.1.2.2.1 = 0
  · rw [if_pos ((tk0 hSk.2.2.2.2.2.1).mpr t), if_pos rfl]
    refine ⟨c8, c9, q1, q2 _ (fun r M6 h => ?_)⟩
    rw [if_pos rfl]; rw [if_pos rfl] at h; exact h
  · rw [if_neg (fun y => t ((tk0 hSk.2.2.2.2.2.1).mp y))]
    refine ⟨c8, c9, q1, q2 _ (fun r M6 h => ?_)⟩
    rw [if_pos rfl, if_pos rfl]; rw [if_pos rfl] at h; exact h

-- needs 30 31 32 33a 33b 33c 33d 33e 33f 33g 33h 33i 33j 40 41 42 43 44 45 46 50 51 52 53 54 55 56 57 58 59 60 61 62 63 64 65 66 67 68 69 70 71 72 73 74 75 76
/-! values, conditions, askings, counts: the same answers -/
theorem op_values {P : Pg} {T : Ts} {nT : Int} (hW : WF P) (n w : Int) : Same P T nT (k11_values n w) (k12_values n w) := by
  have hsz := hW.x.2.2.2.2
  have h60 := hW.le
  by_cases hz : (0 ≤ w ∧ w ≤ 3) ∧ (0 ≤ n ∧ n < P 2 15) ∧ P 3 n = 4 ∧ ¬ gone P n
  case neg =>
    refine ⟨-200, fun M K hC hq => ?_, fun M K hR hq => ?_⟩
    · have hK := hq M Fr.rf hC
      apply k11_values_r
      rw [hC.1.1 2 (by decide) (by decide), hC.1.1 3 (by decide) (by decide)]
      by_cases a : w < 0
      · rw [if_pos a]; exact hK
      rw [if_neg a]
      by_cases b : w ≤ 3
      case neg => rw [if_neg b]; exact hK
      rw [if_pos b]
      by_cases c : n < 0
      · rw [if_pos c]; exact hK
      rw [if_neg c]
      by_cases d : n < P 2 15
      case neg => rw [if_neg d]; exact hK
      rw [if_pos d]
      refine ⟨⟨by omega, by omega⟩, ?_⟩
      by_cases e : P 3 n = 4
      case neg => rw [if_neg e]; exact hK
      rw [if_pos e]
      refine isGone_r hC.1.1 h60 hW.t hW.x ⟨by omega, d⟩ (fun _ => ?_) (fun hg => absurd ⟨⟨by omega, b⟩, ⟨by omega, d⟩, e, hg⟩ hz)
      rw [if_neg (by decide)]; exact hK
    · obtain ⟨f0, hR0⟩ := th0 hR 0
      have h0 := hq _ f0 hR0
      apply k12_values_r
      rw [hR.1.1.1, szw hW]
      by_cases c : n < 0
      · rw [if_pos c]; exact h0
      rw [if_neg c]
      by_cases d : n ≤ P 2 15 - 1
      case neg => rw [if_neg d]; exact h0
      rw [if_pos d, (hR.1.1.2.2 n (by omega) (by omega)).1]
      refine ⟨⟨by omega, by omega⟩, ?_⟩
      by_cases e : P 3 n = 4
      case neg => rw [if_neg e]; exact h0
      rw [if_pos e]
      refine risGone_r h60 hR0.1.1 hW.t hW.x ⟨by omega, by omega⟩ (fun _ => ?_) (fun hg => ?_)
      · rw [if_neg (by decide)]; exact h0
      · rw [if_pos rfl]
        by_cases a : w < 0
        · rw [if_pos a]; exact h0
        · rw [if_neg a, if_neg (fun b => hz ⟨⟨by omega, b⟩, ⟨by omega, by omega⟩, e, hg⟩)]; exact h0
  obtain ⟨hw, hn, h4, hg⟩ := hz
  obtain ⟨v0, v1, v2⟩ := vst_le (P := P) (F := Fz) (T := T) (nT := nT) (n := n) 199
  refine ⟨if w = 0 then (vst P Fz T nT n 199).1 else if w = 1 then (vst P Fz T nT n 199).2.1 else if w = 2 then (vst P Fz T nT n 199).2.2.1 else (vst P Fz T nT n 199).2.2.2, fun M K hC hq => ?_, fun M K hR hq => ?_⟩
  · apply k11_values_r
    rw [hC.1.1 2 (by decide) (by decide), hC.1.1 3 (by decide) (by decide), if_neg (by omega), if_pos hw.2, if_neg (by omega), if_pos hn.2, if_pos h4]
    refine ⟨⟨hn.1, by omega⟩, ?_⟩
    refine isGone_r hC.1.1 h60 hW.t hW.x hn (fun y => absurd y hg) (fun _ => ?_)
    rw [if_pos rfl]
    refine learnRuns_r hW hC (fun M1 f1 c1 e1 => ?_)
    have hC1 := c1
    obtain ⟨⟨hS, hT, hh, hF⟩, ⟨r1, r2⟩, ⟨m1, m2⟩, ⟨q1, q2⟩, hv⟩ := c1
    have hnT := hT.2.1
    refine tryValues_r hW hn h4 hg hS hF hT (r2 e1).1 (hv n hn.1 hn.2) (fun M2 f2 e3 i2 => ?_)
    have hK := hq M2 (f1.trans (f2.mono (fun a i h => by
      simp only [pVal, pTry, pC, Bool.or_eq_true, Bool.and_eq_true, Bool.not_eq_true', Bool.or_eq_false_iff, Bool.and_eq_false_iff, beq_eq_false_iff_ne, beq_iff_eq, decide_eq_true_eq] at h ⊢
      omega))) ⟨⟨f2.sm hS (fun a i a1 a2 => by simp [pVal, pTry]; omega), ⟨by rw [f2.g rfl]; exact hT.1, hnT, fun t j t0 t1 j0 j1 => by rw [f2.g (by simp [pVal, pTry]; omega)]; exact hT.2.2 t j t0 t1 j0 j1⟩, by rw [f2.g rfl]; exact hh, ⟨by rw [f2.g rfl]; exact hF.1, fun y => absurd y (by decide), by rw [f2.g rfl]; exact hF.2.2.1, Or.inl rfl⟩⟩, ⟨by rw [f2.g rfl]; exact r1, by
      rw [f2.g rfl]; intro y
      refine ⟨(r2 y).1.fr hnT f2 (fun a i y => ?_), (r2 y).2.fr f2 (fun a i y => ?_)⟩
      · simp only [kR, Bool.or_eq_true, Bool.and_eq_true, beq_iff_eq, decide_eq_true_eq] at y
        simp [pVal, pTry]; omega
      · simp only [nR, Bool.and_eq_true, decide_eq_true_eq] at y
        simp [pVal, pTry]; omega⟩, ⟨by rw [f2.g rfl]; exact m1, by
      rw [f2.g rfl]; intro y
      exact (m2 y).fr f2 rfl (fun a i a1 a2 => by simp [pVal, pTry]; omega)⟩, ⟨by rw [f2.g rfl]; exact q1, by
      rw [f2.g rfl]; intro y
      exact (q2 y).fr f2 (fun i => by simp [pVal, pTry])⟩, fun n' n0 n1 y => by
      rw [e3] at y; subst y; exact i2⟩
    rw [i2.1]
    by_cases w0 : w = 0
    · rw [if_pos w0] at hK ⊢; exact hK
    rw [if_neg w0] at hK ⊢
    by_cases m0 : (vst P Fz T nT n 199).1 = 0
    · rw [if_pos m0]
      rw [v2 m0] at hK
      split at hK
      · exact hK
      · split at hK
        · exact hK
        · exact hK
    · rw [if_neg m0, (i2.2 m0).1, (i2.2 m0).2.1, (i2.2 m0).2.2]
      by_cases w1 : w = 1
      · rw [if_pos w1] at hK ⊢; exact hK
      rw [if_neg w1] at hK ⊢
      by_cases w2 : w = 2
      · rw [if_pos w2] at hK ⊢; exact hK
      rw [if_neg w2] at hK ⊢; exact hK
  · obtain ⟨f0, hR0⟩ := th0 hR 0
    apply k12_values_r
    rw [hR.1.1.1, szw hW, if_neg (by omega), if_pos (by omega), (hR.1.1.2.2 n hn.1 hn.2).1, if_pos h4]
    refine ⟨⟨hn.1, by omega⟩, ?_⟩
    refine risGone_r h60 hR0.1.1 hW.t hW.x hn (fun y => absurd y hg) (fun _ => ?_)
    rw [if_pos rfl, if_neg (by omega), if_pos hw.2, (hR0.1.1.2.2 n hn.1 hn.2).2.1 (by omega)]
    refine rvalues_r hW hn h4 hR0.1 hw (fun M1 f1 => ?_)
    obtain ⟨f1', hR1⟩ := Rq hR0 f1 qp_val
    exact hq M1 (f0.trans f1') hR1
theorem op_forced {P : Pg} {T : Ts} {nT : Int} (hW : WF P) (n so : Int) (hso : so = 0 ∨ so = 1) : Same P T nT (k11_forced n so) (k12_forced n so) := by
  have hsz := hW.x.2.2.2.2
  have h60 := hW.le
  by_cases hz : (0 ≤ n ∧ n < P 2 15) ∧ (P 3 n = 1 ∨ P 3 n = 2) ∧ ¬ gone P n
  case neg =>
    refine ⟨-1, fun M K hC hq => ?_, fun M K hR hq => ?_⟩
    · have hK := hq M Fr.rf hC
      apply k11_forced_r
      rw [hC.1.1 2 (by decide) (by decide), hC.1.1 3 (by decide) (by decide)]
      by_cases c : n < 0
      · rw [if_pos c]; exact hK
      rw [if_neg c]
      by_cases d : n < P 2 15
      case neg => rw [if_neg d]; exact hK
      rw [if_pos d]
      refine ⟨⟨by omega, by omega⟩, ?_⟩
      by_cases e : P 3 n = 1
      · rw [if_pos e]
        refine isGone_r hC.1.1 h60 hW.t hW.x ⟨by omega, d⟩ (fun _ => ?_) (fun hg => absurd ⟨⟨by omega, d⟩, Or.inl e, hg⟩ hz)
        rw [if_neg (by decide)]; exact hK
      rw [if_neg e]
      by_cases e2 : P 3 n = 2
      · rw [if_pos e2]
        refine isGone_r hC.1.1 h60 hW.t hW.x ⟨by omega, d⟩ (fun _ => ?_) (fun hg => absurd ⟨⟨by omega, d⟩, Or.inr e2, hg⟩ hz)
        rw [if_neg (by decide)]; exact hK
      rw [if_neg e2]; exact hK
    · obtain ⟨f0, hR0⟩ := th0 hR 0
      have h0 := hq _ f0 hR0
      apply k12_forced_r
      rw [hR.1.1.1, szw hW]
      by_cases c : n < 0
      · rw [if_pos c]; exact h0
      rw [if_neg c]
      by_cases d : n ≤ P 2 15 - 1
      case neg => rw [if_neg d]; exact h0
      rw [if_pos d, (hR.1.1.2.2 n (by omega) (by omega)).1]
      refine ⟨⟨by omega, by omega⟩, ?_⟩
      by_cases e : P 3 n = 1
      · rw [if_pos e]
        refine risGone_r h60 hR0.1.1 hW.t hW.x ⟨by omega, by omega⟩ (fun _ => ?_) (fun hg => absurd ⟨⟨by omega, by omega⟩, Or.inl e, hg⟩ hz)
        rw [if_neg (by decide)]; exact h0
      rw [if_neg e]
      by_cases e2 : P 3 n = 2
      · rw [if_pos e2]
        refine risGone_r h60 hR0.1.1 hW.t hW.x ⟨by omega, by omega⟩ (fun _ => ?_) (fun hg => absurd ⟨⟨by omega, by omega⟩, Or.inr e2, hg⟩ hz)
        rw [if_neg (by decide)]; exact h0
      rw [if_neg e2]; exact h0
  obtain ⟨hn, hk, hg⟩ := hz
  have hp0 : 0 < P 2 15 := by omega
  refine ⟨cn (psB P (n, so, -1) T 0) nT.toNat, fun M K hC hq => ?_, fun M K hR hq => ?_⟩
  · obtain ⟨hS, hT, hh, hF⟩ := hC.1
    have go : k10_passingIfForced n so M (fun r9 M8 => K r9 M8) := by
      apply k10_passingIfForced_r
      refine ⟨hso, ?_⟩
      have f1 : Fr (fun a i => a == 73 && (i == 10 || i == 11)) M (upI (upI M 73 10 n) 73 11 so) := (Fr.rf.up _ rfl).up _ rfl
      have s1 : Sm P (upI (upI M 73 10 n) 73 11 so) := f1.sm hS (fun a i a1 a2 => by simp; omega)
      have m1 : Fm (n, so, -1) (upI (upI M 73 10 n) 73 11 so) := ⟨by rw [gI_nf _ _ (by decide), gI_eq], fun _ => gI_eq _ _ _ _, by rw [gI_nf _ _ (by decide), gI_nf _ _ (by decide)]; exact hF.2.2.1, hso⟩
      have t1 : CT T nT (upI (upI M 73 10 n) 73 11 so) := ⟨by rw [f1.g rfl]; exact hT.1, hT.2.1, fun t j t0 t1 j0 j1 => by have := hT.2.1; rw [f1.g (by simp; omega)]; exact hT.2.2 t j t0 t1 j0 j1⟩
      refine countPassing_r (b := 0) hW.r (Or.inl rfl) s1 m1 t1 (fun M2 hR2 => ?_)
      have f2 : Fr (fun a i => pRun a i || (a == 73 && (i == 10 || i == 11))) M (upI M2 73 10 (-1)) := ((f1.mono (fun a i h => by simp only [h, Bool.or_true])).trans (hR2.fr.mono (fun a i h => by simp only [h, Bool.true_or]))).up _ rfl
      have f3 : Fr (fun a i => pRun a i || (a == 73 && i == 11)) M (upI M2 73 10 (-1)) := by
        intro a i z
        by_cases e : a = 73 ∧ i = 10
        · obtain ⟨rfl, rfl⟩ := e
          have h1 : gI (upI M2 73 10 (-1)) 73 10 = gI M 73 10 := by rw [gI_eq, hF.1]; rfl
          exact h1
        · refine f2 a i ?_
          simp only [Bool.or_eq_false_iff, Bool.and_eq_false_iff, beq_eq_false_iff_ne] at z ⊢
          refine ⟨z.1, ?_⟩
          rcases z.2 with y | y
          · exact Or.inl y
          · by_cases e73 : a = 73
            · exact Or.inr ⟨fun w => e ⟨e73, w⟩, y⟩
            · exact Or.inl e73
      refine hq _ (f3.mono (fun a i h => ?_)) (hC.fr f3 (fun a i h => ?_))
      · simp only [pRun, pC, Bool.or_eq_true, Bool.and_eq_true, Bool.not_eq_true', Bool.or_eq_false_iff, Bool.and_eq_false_iff, beq_eq_false_iff_ne, beq_iff_eq, decide_eq_true_eq] at h ⊢
        omega
      · have h1 := run_cR a i h
        rw [h1]
        simp only [cR, kR, nR, Bool.or_eq_true, Bool.and_eq_true, beq_iff_eq, decide_eq_true_eq] at h
        simp only [Bool.false_or, Bool.and_eq_false_iff, beq_eq_false_iff_ne]
        omega
    apply k11_forced_r
    rw [hC.1.1 2 (by decide) (by decide), hC.1.1 3 (by decide) (by decide), if_neg (by omega), if_pos hn.2]
    refine ⟨⟨hn.1, by omega⟩, ?_⟩
    by_cases e : P 3 n = 1
    · rw [if_pos e]
      refine isGone_r hC.1.1 h60 hW.t hW.x hn (fun y => absurd y hg) (fun _ => ?_)
      rw [if_pos rfl]; exact go
    · rw [if_neg e, if_pos (by omega)]
      refine isGone_r hC.1.1 h60 hW.t hW.x hn (fun y => absurd y hg) (fun _ => ?_)
      rw [if_pos rfl]; exact go
  · obtain ⟨f0, hR0⟩ := th0 hR 0
    have go : (so = 0 ∨ so = 1) ∧ k12_manyPass 0 (upI (upI (upI M 142 0 0) 142 36 n) 142 37 so) (fun r10 M9 => K r10 (upI M9 142 36 (-1))) := by
      refine ⟨hso, ?_⟩
      generalize upI M 142 0 0 = M0 at *
      have f1 : Fr (fun a i => a == 142 && (i == 36 || i == 37)) M0 (upI (upI M0 142 36 n) 142 37 so) := (Fr.rf.up _ rfl).up _ rfl
      obtain ⟨hP, hF, hT, hV⟩ := hR0.1
      have p1 : RP P (upI (upI M0 142 36 n) 142 37 so) := f1.rp hP (fun a i a1 a2 => by simp; omega)
      have m1 : FmR (n, so, -1) (upI (upI M0 142 36 n) 142 37 so) := ⟨by rw [gI_nf _ _ (by decide), gI_eq], fun _ => gI_eq _ _ _ _, by rw [gI_nf _ _ (by decide), gI_nf _ _ (by decide)]; exact hF.2.2.1, hso⟩
      have t1 : RT T nT (upI (upI M0 142 36 n) 142 37 so) := ⟨by rw [f1.g rfl]; exact hT.1, hT.2.1, fun t j t0 t1 j0 j1 => by rw [f1.g rfl]; exact hT.2.2 t j t0 t1 j0 j1⟩
      refine manyPass_r (b := 0) hW.r hW.s hW.t hp0 (Or.inl rfl) p1 m1 t1 (fun M2 hQ2 => ?_)
      have f2 : Fr (fun a i => qRun a i || (a == 142 && (i == 36 || i == 37))) M0 (upI M2 142 36 (-1)) := ((f1.mono (fun a i h => by simp only [h, Bool.or_true])).trans (hQ2.fr.mono (fun a i h => by simp only [h, Bool.true_or]))).up _ rfl
      have f3 : Fr (fun a i => qRun a i || (a == 142 && i == 37)) M0 (upI M2 142 36 (-1)) := by
        intro a i z
        by_cases e : a = 142 ∧ i = 36
        · obtain ⟨rfl, rfl⟩ := e
          have h1 : gI (upI M2 142 36 (-1)) 142 36 = gI M0 142 36 := by rw [gI_eq, hF.1]; rfl
          exact h1
        · refine f2 a i ?_
          simp only [Bool.or_eq_false_iff, Bool.and_eq_false_iff, beq_eq_false_iff_ne] at z ⊢
          refine ⟨z.1, ?_⟩
          rcases z.2 with y | y
          · exact Or.inl y
          · by_cases e73 : a = 142
            · exact Or.inr ⟨fun w => e ⟨e73, w⟩, y⟩
            · exact Or.inl e73
      refine hq _ (f0.trans (f3.mono (fun a i h => ?_))) (hR0.fr f3 (fun a i h => ?_))
      · simp only [qRun, qR, Bool.or_eq_true, Bool.and_eq_true, Bool.not_eq_true', Bool.and_eq_false_iff, beq_eq_false_iff_ne, beq_iff_eq, decide_eq_true_eq] at h ⊢
        omega
      · simp only [rR, Bool.or_eq_true, Bool.and_eq_true, beq_iff_eq, decide_eq_true_eq] at h
        simp only [qRun, Bool.or_eq_false_iff, Bool.and_eq_false_iff, beq_eq_false_iff_ne]
        omega
    apply k12_forced_r
    rw [hR.1.1.1, szw hW, if_neg (by omega), if_pos (by omega), (hR.1.1.2.2 n hn.1 hn.2).1]
    refine ⟨⟨hn.1, by omega⟩, ?_⟩
    by_cases e : P 3 n = 1
    · rw [if_pos e]
      refine risGone_r h60 hR0.1.1 hW.t hW.x hn (fun y => absurd y hg) (fun _ => ?_)
      rw [if_pos rfl]; exact go
    · rw [if_neg e, if_pos (by omega)]
      refine risGone_r h60 hR0.1.1 hW.t hW.x hn (fun y => absurd y hg) (fun _ => ?_)
      rw [if_pos rfl]; exact go
theorem op_flip {P : Pg} {T : Ts} {nT : Int} (hW : WF P) (hnT : 0 ≤ nT ∧ nT ≤ 16) (t : Int) : Same P T nT (k11_flip t) (k12_flip t) := by
  have hsz := hW.x.2.2.2.2
  by_cases hz : ¬ P 2 15 = 0 ∧ 0 ≤ t ∧ t < nT
  case neg =>
    refine ⟨-1, fun M K hC hq => ?_, fun M K hR hq => ?_⟩
    · apply k11_flip_r
      refine hasRun_r hW hC (fun a b c => absurd ⟨a, b, c⟩ hz) (fun _ => ?_)
      rw [if_pos rfl]; exact hq M Fr.rf hC
    · have h0 := hq _ (th0 hR 0).1 (th0 hR 0).2
      apply k12_flip_r
      rw [hR.1.1.1, hR.1.2.2.1.1, ntw hnT]
      by_cases a : P 2 15 ≤ 0
      · rw [if_pos a]; exact h0
      rw [if_neg a]
      by_cases b : t < 0
      · rw [if_pos b]; exact h0
      rw [if_neg b, if_neg (by omega)]; exact h0
  obtain ⟨z, t0, t1⟩ := hz
  have hp0 : 0 < P 2 15 := by omega
  refine ⟨if okT P Fz T t = 0 then flA P T t else -1, fun M K hC hq => ?_, fun M K hR hq => ?_⟩
  · apply k11_flip_r
    refine hasRun_r hW hC (fun _ _ _ M1 f1 c1 e1 => ?_) (fun y => absurd ⟨z, t0, t1⟩ y)
    obtain ⟨-, -, -, r81, r82, -, -⟩ := ((c1.2.1.2 e1).1.2 z).1 t t0 t1
    rw [if_neg (by decide), r82]
    refine ⟨⟨t0, by omega⟩, ?_⟩
    by_cases y : okT P Fz T t = 0
    · rw [if_pos y] at hq ⊢
      refine mendingAsking_r hW t0 t1 c1.1.1 c1.1.2.2.2 c1.1.2.1 r81 (fun M2 f2 m2 => ?_)
      have f3 : Fr pRun M1 M2 := by
        intro a i zz
        by_cases e : a = 73 ∧ i = 12
        · obtain ⟨rfl, rfl⟩ := e
          have h1 : gI M2 73 12 = gI M1 73 12 := by rw [m2.2.2.1, c1.1.2.2.2.2.2.1]
          exact h1
        · refine f2 a i ?_
          simp only [pFlip, Bool.or_eq_false_iff, Bool.and_eq_false_iff, beq_eq_false_iff_ne]
          refine ⟨zz, ?_⟩
          by_cases e73 : a = 73
          · exact Or.inr (fun w => e ⟨e73, w⟩)
          · exact Or.inl e73
      exact hq M2 (f1.trans (run_C f3)) (c1.fr f3 run_cR)
    · rw [if_neg y] at hq ⊢; exact hq M1 f1 c1
  · obtain ⟨f0, hR0⟩ := th0 hR 0
    apply k12_flip_r
    rw [hR.1.1.1, hR.1.2.2.1.1, ntw hnT, if_neg (by omega), if_neg (by omega), if_pos (by omega)]
    refine rpassesT_r hW.r hW.s hW.t hp0 t0 t1 hR0.1.1 hR0.1.2.1 hR0.1.2.2.1 (fun M1 hQ hRr => ?_)
    obtain ⟨ret, hRr⟩ := hRr
    obtain ⟨f1, hR1⟩ := Rq hR0 hQ.fr qp_run
    by_cases y : okT P Fz T t = 0
    · rw [if_pos y] at hq ⊢
      rw [hRr.2.2.2.2.2.1]
      refine rflip_r hW hp0 t0 t1 hR1.1 (fun M2 f2 m2 => ?_)
      have f3 : Fr qRun M1 M2 := by
        intro a i zz
        by_cases e : a = 142 ∧ i = 35
        · obtain ⟨rfl, rfl⟩ := e
          have h1 : gI M2 142 35 = gI M1 142 35 := by rw [m2.2.2.1, hR1.1.2.1.2.2.1]
          exact h1
        · refine f2 a i ?_
          simp only [qFlip, Bool.or_eq_false_iff, Bool.and_eq_false_iff, beq_eq_false_iff_ne]
          refine ⟨zz, ?_⟩
          by_cases e73 : a = 142
          · exact Or.inr (fun w => e ⟨e73, w⟩)
          · exact Or.inl e73
      obtain ⟨f3', hR3⟩ := Rq hR1 f3 qp_run
      exact hq M2 ((f0.trans f1).trans f3') hR3
    · rw [if_neg y] at hq ⊢; exact hq M1 (f0.trans f1) hR1
def sumC (P : Pg) : Nat → Int → Int
  | 0, _ => 0
  | _ + 1, _ => 0
noncomputable def allC (P : Pg) : Nat → Int
  | 0 => 0
  | n + 1 => allC P n + chg P (n : Int)
theorem allC_le {P : Pg} (hW : WF P) : ∀ n : Nat, (n : Int) ≤ P 2 15 → 0 ≤ allC P n ∧ allC P n ≤ 8 * n := by
  intro n
  induction n with
  | zero => intro _; exact ⟨Int.le_refl _, Int.le_refl _⟩
  | succ n ih =>
    intro h
    have h1 := ih (by omega)
    have h2 := chg_le (P := P) (n := (n : Int))
    have h3 := chg_nn hW (n := (n : Int)) ⟨by omega, by omega⟩
    show 0 ≤ allC P n + chg P (n : Int) ∧ allC P n + chg P (n : Int) ≤ 8 * ((n + 1 : Nat) : Int)
    omega
theorem op_count {P : Pg} {T : Ts} {nT : Int} (hW : WF P) (hK' : WK P) (hnT : 0 ≤ nT ∧ nT ≤ 16) (w : Int) (h8 : w ≠ 8) : Same P T nT (k11_count w) (k12_count w) := by
  have hsz := hW.x.2.2.2.2
  have h60 := hW.le
  by_cases e0 : w = 0
  · refine ⟨P 2 15, fun M K hC hq => ?_, fun M K hR hq => ?_⟩
    · apply k11_count_r
      rw [if_pos e0, hC.1.1 2 (by decide) (by decide)]; exact hq M Fr.rf hC
    · apply k12_count_r
      rw [if_pos e0, hR.1.1.1]; exact hq _ (th0 hR 0).1 (th0 hR 0).2
  by_cases e1 : w = 1
  · refine ⟨P 2 16, fun M K hC hq => ?_, fun M K hR hq => ?_⟩
    · apply k11_count_r
      rw [if_neg e0, if_pos e1, hC.1.1 2 (by decide) (by decide)]; exact hq M Fr.rf hC
    · apply k12_count_r
      rw [if_neg e0, if_pos e1, hR.1.1.2.1]; exact hq _ (th0 hR 0).1 (th0 hR 0).2
  by_cases e2 : w = 2
  · refine ⟨nT, fun M K hC hq => ?_, fun M K hR hq => ?_⟩
    · apply k11_count_r
      rw [if_neg e0, if_neg e1, if_pos e2, hC.1.2.1.1]; exact hq M Fr.rf hC
    · apply k12_count_r
      rw [if_neg e0, if_neg e1, if_pos e2, hR.1.2.2.1.1]; exact hq _ (th0 hR 0).1 (th0 hR 0).2
  by_cases e3 : w = 3
  · refine ⟨cn (hdB T 1) nT.toNat, fun M K hC hq => ?_, fun M K hR hq => ?_⟩
    · apply k11_count_r
      rw [if_neg e0, if_neg e1, if_neg e2, if_pos e3, hC.1.2.2.1]; exact hq M Fr.rf hC
    · apply k12_count_r
      rw [if_neg e0, if_neg e1, if_neg e2, if_pos e3]
      exact manyTests_r (Or.inr rfl) (th0 hR 0).2.1.2.2.1 (hq _ (th0 hR 0).1 (th0 hR 0).2)
  have mp : ∀ b M (K : Int → pm_M → Prop), (b = 0 ∨ b = 1) → RI P T nT M → 0 < P 2 15 → (∀ M', Fr qR M M' → RI P T nT M' → K (cn (psB P Fz T b) nT.toNat) M') → k12_manyPass b (upI M 142 0 0) (fun r10 M9 => K r10 M9) := by
    intro b M K hb hR hp0 hq
    obtain ⟨f0, hR0⟩ := th0 hR 0
    refine manyPass_r (P := P) (F := Fz) (T := T) (nT := nT) hW.r hW.s hW.t hp0 hb hR0.1.1 hR0.1.2.1 hR0.1.2.2.1 (fun M1 hQ => ?_)
    obtain ⟨f1, hR1⟩ := Rq hR0 hQ.fr qp_run
    exact hq M1 (f0.trans f1) hR1
  by_cases e4 : w = 4
  · by_cases hz : P 2 15 = 0
    · refine ⟨0, fun M K hC hq => ?_, fun M K hR hq => ?_⟩
      · apply k11_count_r
        rw [if_neg e0, if_neg e1, if_neg e2, if_neg e3, if_pos e4]
        refine learnRuns_r hW hC (fun M1 f1 c1 z1 => ?_)
        rw [((c1.2.1.2 z1).1.1 hz).1]; exact hq M1 f1 c1
      · apply k12_count_r
        rw [if_neg e0, if_neg e1, if_neg e2, if_neg e3, if_pos e4, hR.1.1.1, if_pos (by omega)]
        exact hq _ (th0 hR 0).1 (th0 hR 0).2
    · refine ⟨cn (psB P Fz T 0) nT.toNat, fun M K hC hq => ?_, fun M K hR hq => ?_⟩
      · apply k11_count_r
        rw [if_neg e0, if_neg e1, if_neg e2, if_neg e3, if_pos e4]
        refine learnRuns_r hW hC (fun M1 f1 c1 z1 => ?_)
        rw [((c1.2.1.2 z1).1.2 hz).2.1]; exact hq M1 f1 c1
      · apply k12_count_r
        rw [if_neg e0, if_neg e1, if_neg e2, if_neg e3, if_pos e4, hR.1.1.1, if_neg (by omega)]
        exact mp 0 M K (Or.inl rfl) hR (by omega) hq
  by_cases e5 : w = 5
  · by_cases hz : P 2 15 = 0
    · refine ⟨0, fun M K hC hq => ?_, fun M K hR hq => ?_⟩
      · apply k11_count_r
        rw [if_neg e0, if_neg e1, if_neg e2, if_neg e3, if_neg e4, if_pos e5]
        refine learnRuns_r hW hC (fun M1 f1 c1 z1 => ?_)
        rw [((c1.2.1.2 z1).1.1 hz).2.2]; exact hq M1 f1 c1
      · apply k12_count_r
        rw [if_neg e0, if_neg e1, if_neg e2, if_neg e3, if_neg e4, if_pos e5, hR.1.1.1, if_pos (by omega)]
        exact hq _ (th0 hR 0).1 (th0 hR 0).2
    · refine ⟨cn (psB P Fz T 1) nT.toNat, fun M K hC hq => ?_, fun M K hR hq => ?_⟩
      · apply k11_count_r
        rw [if_neg e0, if_neg e1, if_neg e2, if_neg e3, if_neg e4, if_pos e5]
        refine learnRuns_r hW hC (fun M1 f1 c1 z1 => ?_)
        rw [((c1.2.1.2 z1).1.2 hz).2.2.2.1]; exact hq M1 f1 c1
      · apply k12_count_r
        rw [if_neg e0, if_neg e1, if_neg e2, if_neg e3, if_neg e4, if_pos e5, hR.1.1.1, if_neg (by omega)]
        exact mp 1 M K (Or.inr rfl) hR (by omega) hq
  by_cases e6 : w = 6
  · refine ⟨pc (P 2 18), fun M K hC hq => ?_, fun M K hR hq => ?_⟩
    · apply k11_count_r
      rw [if_neg e0, if_neg e1, if_neg e2, if_neg e3, if_neg e4, if_neg e5, if_pos e6]
      apply k0_variableCount_r
      rw [hC.1.1 2 (by decide) (by decide)]
      exact bitCount_r hW.v.1 (hq M Fr.rf hC)
    · apply k12_count_r
      rw [if_neg e0, if_neg e1, if_neg e2, if_neg e3, if_neg e4, if_neg e5, if_pos e6, hR.1.2.2.2]
      exact bits_r hW.v.1 (hq _ (th0 hR 0).1 (th0 hR 0).2)
  by_cases e7 : w = 7
  · refine ⟨P 2 17, fun M K hC hq => ?_, fun M K hR hq => ?_⟩
    · apply k11_count_r
      rw [if_neg e0, if_neg e1, if_neg e2, if_neg e3, if_neg e4, if_neg e5, if_neg e6, if_pos e7, hC.1.1 2 (by decide) (by decide)]; exact hq M Fr.rf hC
    · apply k12_count_r
      rw [if_neg e0, if_neg e1, if_neg e2, if_neg e3, if_neg e4, if_neg e5, if_neg e6, if_pos e7, hR.2.1]; exact hq _ (th0 hR 0).1 (th0 hR 0).2
  by_cases e9 : w = 9
  · have hs : ∀ n : Int, 0 ≤ n → allC P (n + 1).toNat = allC P n.toNat + chg P n := by
      intro n n0
      rw [show (n + 1).toNat = n.toNat + 1 by omega]
      show allC P n.toNat + chg P ((n.toNat : Nat) : Int) = _
      rw [Int.toNat_of_nonneg n0]
    refine ⟨allC P (P 2 15).toNat, fun M K hC hq => ?_, fun M K hR hq => ?_⟩
    · apply k11_count_r
      rw [if_neg e0, if_neg e1, if_neg e2, if_neg e3, if_neg e4, if_neg e5, if_neg e6, if_neg e7, if_neg h8, if_pos e9]
      apply k0_allChanges_r
      refine upto (n := P 2 15) (I := fun t (_ : Unit) => True) (Q := fun t _ => k0_allChanges_4 (allC P t.toNat) t M _) ?_ ?_ 0 () (by omega) (by omega) trivial
      · intro _ _
        apply k0_allChanges_4_r
        rw [hC.1.1 2 (by decide) (by decide), if_neg (by omega)]; exact hq M Fr.rf hC
      · intro n _ n0 n1 _ ih
        have h2 := ih () trivial
        have hc := allC_le hW n.toNat (by omega)
        have c8 := chg_le (P := P) (n := n)
        have c0 := chg_nn hW ⟨n0, n1⟩
        apply k0_allChanges_4_r
        rw [hC.1.1 2 (by decide) (by decide), if_pos n1, w32_id (show -2147483648 ≤ n + 1 ∧ n + 1 < 2147483648 by omega)]
        refine changeCount_r hW hC.1.1 ⟨n0, n1⟩ ?_
        rw [w32_id (by omega), ← hs n n0]; exact h2
    · obtain ⟨f0, hR0⟩ := th0 hR 0
      apply k12_count_r
      rw [if_neg e0, if_neg e1, if_neg e2, if_neg e3, if_neg e4, if_neg e5, if_neg e6, if_neg e7, if_neg h8, if_pos e9]
      apply k12_allChanges_r
      refine upto (n := P 2 15) (I := fun t M1 => Fr qR M M1 ∧ RI P T nT M1) (Q := fun t M1 => k12_allChanges_4 (allC P t.toNat) t M1 _) ?_ ?_ 0 _ (by omega) (by omega) ⟨f0, hR0⟩
      · intro M1 ⟨f1, r1⟩
        apply k12_allChanges_4_r
        rw [r1.1.1.1, if_neg (by omega)]; exact hq M1 f1 r1
      · intro n M1 n0 n1 ⟨f1, r1⟩ ih
        have hc := allC_le hW n.toNat (by omega)
        have c8 := chg_le (P := P) (n := n)
        have c0 := chg_nn hW ⟨n0, n1⟩
        apply k12_allChanges_4_r
        rw [r1.1.1.1, if_pos n1, w32_id (show -2147483648 ≤ n + 1 ∧ n + 1 < 2147483648 by omega)]
        refine changesOf_r hW r1.1.1 r1.1.2.2.2 ⟨n0, n1⟩ (fun M2 f2 => ?_)
        obtain ⟨f2', r2⟩ := Rq r1 f2 qp_ask
        have h2 := ih M2 ⟨f1.trans f2', r2⟩
        rw [w32_id (by omega), ← hs n n0]; exact h2
  · refine ⟨-1, fun M K hC hq => ?_, fun M K hR hq => ?_⟩
    · apply k11_count_r
      rw [if_neg e0, if_neg e1, if_neg e2, if_neg e3, if_neg e4, if_neg e5, if_neg e6, if_neg e7, if_neg h8, if_neg e9]; exact hq M Fr.rf hC
    · apply k12_count_r
      rw [if_neg e0, if_neg e1, if_neg e2, if_neg e3, if_neg e4, if_neg e5, if_neg e6, if_neg e7, if_neg h8, if_neg e9]; exact hq _ (th0 hR 0).1 (th0 hR 0).2

-- needs 30 31 32 33a 33b 33c 33d 33e 33f 33g 33h 33i 33j 40 41 42 43 44 45 46 50 51 52 53 54 55 56 57 58 59 60 61 62 63 64 65 66 67 68 69 70 71 72 73
/-! calls that tell of runs and ranks: the same answers -/
theorem qPrs_R : ∀ a i, qPrs a i = true → qR a i = true ∧ rR a i = false := fun a i h => by
  simp only [qPrs, qPair, qMds, qMd, qEnds, qRun, qAsk, qPut, qRank, qSpec, qSc, Bool.or_eq_true, Bool.and_eq_true, beq_iff_eq] at h
  constructor
  · simp only [qR, Bool.and_eq_true, Bool.not_eq_true', Bool.and_eq_false_iff, beq_eq_false_iff_ne, decide_eq_true_eq]
    omega
  · simp only [rR, Bool.or_eq_false_iff, Bool.and_eq_false_iff, beq_eq_false_iff_ne, decide_eq_false_iff_not]
    omega
theorem Rq {P : Pg} {T : Ts} {nT : Int} {M M' : pm_M} {p : Nat → Nat → Bool} (h : RI P T nT M) (f : Fr p M M') (hp : ∀ a i, p a i = true → qPrs a i = true) : Fr qR M M' ∧ RI P T nT M' := by
  refine ⟨f.mono (fun a i z => (qPrs_R a i (hp a i z)).1), h.fr f (fun a i z => ?_)⟩
  cases e : p a i with
  | false => rfl
  | true => have := (qPrs_R a i (hp a i e)).2; rw [this] at z; exact absurd z (by decide)
theorem qp_run : ∀ a i, qRun a i = true → qPrs a i = true := fun a i h => by simp only [qPrs, qPair, h, Bool.or_true, Bool.true_or]
theorem qp_ask : ∀ a i, qAsk a i = true → qPrs a i = true := fun a i h => by simp only [qPrs, qPair, h, Bool.or_true, Bool.true_or]
theorem qp_mds : ∀ a i, qMds a i = true → qPrs a i = true := fun a i h => by simp only [qPrs, h, Bool.or_true, Bool.true_or]
theorem qp_rank : ∀ a i, qRank a i = true → qPrs a i = true := fun a i h => qp_mds a i (by simp only [qMds, h, Bool.or_true])
theorem qp_spec : ∀ a i, qSpec a i = true → qPrs a i = true := fun a i h => qp_rank a i (by simp only [qRank, h, Bool.true_or])
theorem qp_sc : ∀ a i, qSc a i = true → qPrs a i = true := fun a i h => qp_rank a i (by simp only [qRank, h, Bool.or_true])
theorem qp_val : ∀ a i, qVal a i = true → qPrs a i = true := fun a i h => by
  simp only [qVal, Bool.or_eq_true] at h
  rcases h with h | h
  · exact qp_run a i h
  · simp only [qPrs, qPair, h, Bool.or_true, Bool.true_or]
theorem hasRun_r {P : Pg} {T : Ts} {nT : Int} (hW : WF P) {M : pm_M} {K : Int → pm_M → Prop} {t : Int} (hC : CI P T nT M) (h1 : ¬ P 2 15 = 0 → 0 ≤ t → t < nT → ∀ M', Fr pC M M' → CI P T nT M' → gI M' 0 14 = 1 → K 1 M') (h0 : ¬ (¬ P 2 15 = 0 ∧ 0 ≤ t ∧ t < nT) → K 0 M) : k11_hasRun t M K := by
  apply k11_hasRun_r
  rw [hC.1.1 2 (by decide) (by decide), hC.1.2.1.1]
  by_cases z : P 2 15 = 0
  · rw [if_pos z]; exact h0 (fun y => y.1 z)
  rw [if_neg z]
  by_cases z0 : t < 0
  · rw [if_pos z0]; exact h0 (by omega)
  rw [if_neg z0]
  by_cases z1 : t < nT
  · rw [if_pos z1]; exact learnRuns_r hW hC (h1 z (by omega) z1)
  · rw [if_neg z1]; exact h0 (by omega)
theorem szw {P : Pg} (hW : WF P) : w32 (P 2 15 - 1) = P 2 15 - 1 := by
  have h60 := hW.le
  have hsz := hW.x.2.2.2.2
  exact w32_id (by omega)
theorem ntw {nT : Int} (h : 0 ≤ nT ∧ nT ≤ 16) : w32 (nT - 1) = nT - 1 := w32_id (by omega)
theorem op_run {P : Pg} {T : Ts} {nT : Int} (hW : WF P) (hnT : 0 ≤ nT ∧ nT ≤ 16) (t w : Int) : Same P T nT (k11_run t w) (k12_run t w) := by
  have hsz := hW.x.2.2.2.2
  by_cases hz : ¬ P 2 15 = 0 ∧ 0 ≤ t ∧ t < nT
  case neg =>
    refine ⟨-1, fun M K hC hq => ?_, fun M K hR hq => ?_⟩
    · apply k11_run_r
      refine hasRun_r hW hC (fun a b c => absurd ⟨a, b, c⟩ hz) (fun _ => ?_)
      rw [if_pos rfl]; exact hq M Fr.rf hC
    · have h0 := hq _ (th0 hR 0).1 (th0 hR 0).2
      apply k12_run_r
      rw [hR.1.1.1, hR.1.2.2.1.1, ntw hnT]
      by_cases a : P 2 15 ≤ 0
      · rw [if_pos a]; exact h0
      rw [if_neg a]
      by_cases b : t < 0
      · rw [if_pos b]; exact h0
      rw [if_neg b, if_neg (by omega)]; exact h0
  obtain ⟨z, t0, t1⟩ := hz
  by_cases hw : 0 ≤ w ∧ w ≤ 3
  case neg =>
    refine ⟨-1, fun M K hC hq => ?_, fun M K hR hq => ?_⟩
    · apply k11_run_r
      refine hasRun_r hW hC (fun _ _ _ M1 f1 c1 e1 => ?_) (fun y => absurd ⟨z, t0, t1⟩ y)
      rw [if_neg (by decide), if_neg (by omega), if_neg (by omega), if_neg (by omega), if_neg (by omega)]
      exact hq M1 f1 c1
    · have h0 := hq _ (th0 hR 0).1 (th0 hR 0).2
      apply k12_run_r
      rw [hR.1.1.1, hR.1.2.2.1.1, ntw hnT, if_neg (by omega), if_neg (by omega), if_pos (by omega)]
      by_cases b : w < 0
      · rw [if_pos b]; exact h0
      · rw [if_neg b, if_neg (by omega)]; exact h0
  refine ⟨if w = 0 then (runP P Fz (T t)).2.2.1 else if w = 1 then (runP P Fz (T t)).2.2.2.1 else if w = 2 then ((runP P Fz (T t)).2.1.length : Int) else okT P Fz T t, fun M K hC hq => ?_, fun M K hR hq => ?_⟩
  · apply k11_run_r
    refine hasRun_r hW hC (fun _ _ _ M1 f1 c1 e1 => ?_) (fun y => absurd ⟨z, t0, t1⟩ y)
    have hK := hq M1 f1 c1
    obtain ⟨r78, r79, r80, -, r82, -, -⟩ := ((c1.2.1.2 e1).1.2 z).1 t t0 t1
    rw [if_neg (by decide), r78, r79, r80, r82]
    by_cases w0 : w = 0
    · rw [if_pos w0] at hK ⊢; exact ⟨⟨t0, by omega⟩, hK⟩
    rw [if_neg w0] at hK ⊢
    by_cases w1 : w = 1
    · rw [if_pos w1] at hK ⊢; exact ⟨⟨t0, by omega⟩, hK⟩
    rw [if_neg w1] at hK ⊢
    by_cases w2 : w = 2
    · rw [if_pos w2] at hK ⊢; exact ⟨⟨t0, by omega⟩, hK⟩
    rw [if_neg w2] at hK ⊢
    rw [if_pos (by omega)]
    refine ⟨⟨t0, by omega⟩, ?_⟩
    rcases okT_01 P Fz T t with y | y
    · rw [y] at hK ⊢; rw [if_pos rfl]; exact hK
    · rw [y] at hK ⊢; rw [if_neg (by decide)]; exact hK
  · apply k12_run_r
    rw [hR.1.1.1, hR.1.2.2.1.1, ntw hnT, if_neg (by omega), if_neg (by omega), if_pos (by omega), if_neg (by omega), if_pos hw.2]
    obtain ⟨f0, hR0⟩ := th0 hR 0
    refine rpassesT_r hW.r hW.s hW.t (by omega) t0 t1 hR0.1.1 hR0.1.2.1 hR0.1.2.2.1 (fun M1 hQ hRr => ?_)
    obtain ⟨ret, hRr⟩ := hRr
    obtain ⟨f1, hR1⟩ := Rq hR0 hQ.fr qp_run
    have hK := hq M1 (f0.trans f1) hR1
    rw [hRr.2.2.2.1, hRr.2.2.2.2.1, hRr.2.1]
    by_cases w0 : w = 0
    · rw [if_pos w0] at hK ⊢; exact hK
    rw [if_neg w0] at hK ⊢
    by_cases w1 : w = 1
    · rw [if_pos w1] at hK ⊢; exact hK
    rw [if_neg w1] at hK ⊢
    by_cases w2 : w = 2
    · rw [if_pos w2] at hK ⊢; exact hK
    rw [if_neg w2] at hK ⊢
    rcases okT_01 P Fz T t with y | y
    · rw [y] at hK ⊢; rw [if_pos rfl]; exact hK
    · rw [y] at hK ⊢; rw [if_neg (by decide)]; exact hK
theorem rruns_r {P : Pg} {T : Ts} {nT : Int} (hW : WF P) (hp0 : 0 < P 2 15) {M : pm_M} {K : pm_M → Prop} {t : Int} (t0 : 0 ≤ t) (t1 : t < nT) (hR : RI P T nT M) (hq : ∀ M', Fr qR M M' → RI P T nT M' → (∃ ret, Rr (runP P Fz (T t)) ret M') → K M') : k12_runs t M K := by
  have hT := hR.1.2.2.1
  have hnT := hT.2.1
  refine runs_r hW.r hW.s hW.t hp0 ⟨t0, by omega⟩ hR.1.1 hR.1.2.1 (fun M1 hQ hRr _ => ?_)
  rw [hT.run t0 t1] at hRr
  obtain ⟨f1, hR1⟩ := Rq hR hQ.fr qp_run
  exact hq M1 f1 hR1 hRr
theorem op_done {P : Pg} {T : Ts} {nT : Int} (hW : WF P) (hnT : 0 ≤ nT ∧ nT ≤ 16) (t n : Int) : Same P T nT (k11_done t n) (k12_done t n) := by
  have hsz := hW.x.2.2.2.2
  have h60 := hW.le
  by_cases hz : 0 ≤ t ∧ t < nT ∧ 0 ≤ n ∧ n < P 2 15 ∧ P 3 n ≤ 3
  case neg =>
    refine ⟨-1, fun M K hC hq => ?_, fun M K hR hq => ?_⟩
    · apply k11_done_r
      refine hasRun_r hW hC (fun z t0 t1 M1 f1 c1 e1 => ?_) (fun _ => ?_)
      · have hK := hq M1 f1 c1
        rw [if_neg (by decide), c1.1.1 2 (by decide) (by decide), c1.1.1 3 (by decide) (by decide)]
        by_cases a : n < 0
        · rw [if_pos a]; exact hK
        rw [if_neg a]
        by_cases b : n < P 2 15
        · rw [if_pos b, if_neg (by omega)]; exact ⟨⟨by omega, by omega⟩, hK⟩
        · rw [if_neg b]; exact hK
      · rw [if_pos rfl]; exact hq M Fr.rf hC
    · have h0 := hq _ (th0 hR 0).1 (th0 hR 0).2
      apply k12_done_r
      rw [hR.1.1.1, hR.1.2.2.1.1, ntw hnT, szw hW]
      by_cases a : t < 0
      · rw [if_pos a]; exact h0
      rw [if_neg a]
      by_cases b : t ≤ nT - 1
      · rw [if_pos b]
        by_cases c : n < 0
        · rw [if_pos c]; exact h0
        rw [if_neg c]
        by_cases d : n ≤ P 2 15 - 1
        · rw [if_pos d, (hR.1.1.2.2 n (by omega) (by omega)).1, if_neg (by omega)]; exact ⟨⟨by omega, by omega⟩, h0⟩
        · rw [if_neg d]; exact h0
      · rw [if_neg b]; exact h0
  obtain ⟨t0, t1, n0, n1, n3⟩ := hz
  have z : ¬ P 2 15 = 0 := by omega
  refine ⟨((runP P Fz (T t)).2.1.count n : Int), fun M K hC hq => ?_, fun M K hR hq => ?_⟩
  · apply k11_done_r
    refine hasRun_r hW hC (fun _ _ _ M1 f1 c1 e1 => ?_) (fun y => absurd ⟨z, t0, t1⟩ y)
    have hK := hq M1 f1 c1
    obtain ⟨-, -, -, -, -, -, r101⟩ := ((c1.2.1.2 e1).1.2 z).1 t t0 t1
    rw [if_neg (by decide), c1.1.1 2 (by decide) (by decide), c1.1.1 3 (by decide) (by decide), if_neg (by omega), if_pos n1, if_pos n3, r101 n n0 (by omega)]
    exact ⟨⟨n0, by omega⟩, ⟨t0, by omega⟩, hK⟩
  · apply k12_done_r
    rw [hR.1.1.1, hR.1.2.2.1.1, ntw hnT, szw hW, if_neg (by omega), if_pos (by omega), if_neg (by omega), if_pos (by omega), (hR.1.1.2.2 n n0 n1).1, if_pos n3]
    refine ⟨⟨n0, by omega⟩, ?_⟩
    obtain ⟨f0, hR0⟩ := th0 hR 0
    refine rruns_r hW (by omega) t0 t1 hR0 (fun M1 f1 hR1 hRr => ?_)
    obtain ⟨ret, hRr⟩ := hRr
    rw [hRr.2.2.2.2.2.2.2.1 n n0 (by omega)]
    exact ⟨⟨n0, by omega⟩, hq M1 (f0.trans f1) hR1⟩
theorem op_trace {P : Pg} {T : Ts} {nT : Int} (hW : WF P) (hnT : 0 ≤ nT ∧ nT ≤ 16) (t k : Int) : Same P T nT (k11_trace t k) (k12_trace t k) := by
  have hsz := hW.x.2.2.2.2
  by_cases hz : ¬ P 2 15 = 0 ∧ 0 ≤ t ∧ t < nT
  case neg =>
    refine ⟨-1, fun M K hC hq => ?_, fun M K hR hq => ?_⟩
    · apply k11_trace_r
      refine hasRun_r hW hC (fun a b c => absurd ⟨a, b, c⟩ hz) (fun _ => ?_)
      rw [if_pos rfl]; exact hq M Fr.rf hC
    · have h0 := hq _ (th0 hR 0).1 (th0 hR 0).2
      apply k12_trace_r
      rw [hR.1.1.1, hR.1.2.2.1.1, ntw hnT]
      by_cases a : P 2 15 ≤ 0
      · rw [if_pos a]; exact h0
      rw [if_neg a]
      by_cases b : t < 0
      · rw [if_pos b]; exact h0
      rw [if_neg b, if_neg (by omega)]; exact h0
  obtain ⟨z, t0, t1⟩ := hz
  have hok := runP_ok (P := P) (F := Fz) (r := T t)
  obtain ⟨L, hL⟩ : ∃ L : Int, L = ((runP P Fz (T t)).2.1.length : Int) := ⟨_, rfl⟩
  have hL3 : L ≤ 300 := by have := hok.1; omega
  have wl : w32 (L - 1) = L - 1 := w32_id (by omega)
  by_cases hk : 0 ≤ k ∧ k < L
  case neg =>
    refine ⟨-1, fun M K hC hq => ?_, fun M K hR hq => ?_⟩
    · apply k11_trace_r
      refine hasRun_r hW hC (fun _ _ _ M1 f1 c1 e1 => ?_) (fun y => absurd ⟨z, t0, t1⟩ y)
      have hK := hq M1 f1 c1
      obtain ⟨-, -, r80, -, -, -, -⟩ := ((c1.2.1.2 e1).1.2 z).1 t t0 t1
      rw [if_neg (by decide), r80, ← hL]
      by_cases a : k < 0
      · rw [if_pos a]; exact hK
      · rw [if_neg a, if_neg (by omega)]; exact ⟨⟨t0, by omega⟩, hK⟩
    · apply k12_trace_r
      rw [hR.1.1.1, hR.1.2.2.1.1, ntw hnT, if_neg (by omega), if_neg (by omega), if_pos (by omega)]
      obtain ⟨f0, hR0⟩ := th0 hR 0
      refine rruns_r hW (by omega) t0 t1 hR0 (fun M1 f1 hR1 hRr => ?_)
      obtain ⟨ret, hRr⟩ := hRr
      have hK := hq M1 (f0.trans f1) hR1
      rw [hRr.2.1, ← hL, wl]
      by_cases a : k < 0
      · rw [if_pos a]; exact hK
      · rw [if_neg a, if_neg (by omega)]; exact hK
  refine ⟨(runP P Fz (T t)).2.1.getD k.toNat 0, fun M K hC hq => ?_, fun M K hR hq => ?_⟩
  · apply k11_trace_r
    refine hasRun_r hW hC (fun _ _ _ M1 f1 c1 e1 => ?_) (fun y => absurd ⟨z, t0, t1⟩ y)
    have hK := hq M1 f1 c1
    obtain ⟨-, -, r80, -, -, r84, -⟩ := ((c1.2.1.2 e1).1.2 z).1 t t0 t1
    have h84 := r84 k.toNat (by omega)
    rw [Int.toNat_of_nonneg hk.1] at h84
    rw [if_neg (by decide), r80, ← hL, if_neg (by omega), if_pos hk.2, h84]
    exact ⟨⟨t0, by omega⟩, ⟨hk.1, by omega⟩, hK⟩
  · apply k12_trace_r
    rw [hR.1.1.1, hR.1.2.2.1.1, ntw hnT, if_neg (by omega), if_neg (by omega), if_pos (by omega)]
    obtain ⟨f0, hR0⟩ := th0 hR 0
    refine rruns_r hW (by omega) t0 t1 hR0 (fun M1 f1 hR1 hRr => ?_)
    obtain ⟨ret, hRr⟩ := hRr
    have hK := hq M1 (f0.trans f1) hR1
    have h158 := hRr.2.2.1 k.toNat (by omega)
    rw [Int.toNat_of_nonneg hk.1] at h158
    rw [hRr.2.1, ← hL, wl, if_neg (by omega), if_pos (by omega), h158]
    exact ⟨⟨hk.1, by omega⟩, hK⟩
theorem op_spectrum {P : Pg} {T : Ts} {nT : Int} (hW : WF P) (hnT : 0 ≤ nT ∧ nT ≤ 16) (n w : Int) : Same P T nT (k11_spectrum n w) (k12_spectrum n w) := by
  have hsz := hW.x.2.2.2.2
  have h60 := hW.le
  by_cases hz : 0 ≤ n ∧ n < P 2 15 ∧ P 3 n ≤ 3
  case neg =>
    refine ⟨-1, fun M K hC hq => ?_, fun M K hR hq => ?_⟩
    · have hK := hq M Fr.rf hC
      apply k11_spectrum_r
      rw [hC.1.1 2 (by decide) (by decide), hC.1.1 3 (by decide) (by decide)]
      by_cases a : n < 0
      · rw [if_pos a]; exact hK
      rw [if_neg a]
      by_cases b : n < P 2 15
      · rw [if_pos b, if_neg (by omega)]; exact ⟨⟨by omega, by omega⟩, hK⟩
      · rw [if_neg b]; exact hK
    · have h0 := hq _ (th0 hR 0).1 (th0 hR 0).2
      apply k12_spectrum_r
      rw [hR.1.1.1, szw hW]
      by_cases c : n < 0
      · rw [if_pos c]; exact h0
      rw [if_neg c]
      by_cases d : n ≤ P 2 15 - 1
      · rw [if_pos d, (hR.1.1.2.2 n (by omega) (by omega)).1, if_neg (by omega)]; exact ⟨⟨by omega, by omega⟩, h0⟩
      · rw [if_neg d]; exact h0
  obtain ⟨n0, n1, n3⟩ := hz
  have hst : isSt P n := ⟨n0, n1, n3⟩
  have z : ¬ P 2 15 = 0 := by omega
  by_cases hw : 0 ≤ w ∧ w ≤ 3
  case neg =>
    refine ⟨-1, fun M K hC hq => ?_, fun M K hR hq => ?_⟩
    · apply k11_spectrum_r
      rw [hC.1.1 2 (by decide) (by decide), hC.1.1 3 (by decide) (by decide), if_neg (by omega), if_pos n1, if_pos n3]
      refine ⟨⟨n0, by omega⟩, learnRuns_r hW hC (fun M1 f1 c1 e1 => ?_)⟩
      rw [if_neg (by omega), if_neg (by omega), if_neg (by omega), if_neg (by omega)]
      exact hq M1 f1 c1
    · have h0 := hq _ (th0 hR 0).1 (th0 hR 0).2
      apply k12_spectrum_r
      rw [hR.1.1.1, szw hW, if_neg (by omega), if_pos (by omega), (hR.1.1.2.2 n n0 n1).1, if_pos n3]
      refine ⟨⟨n0, by omega⟩, ?_⟩
      by_cases b : w < 0
      · rw [if_pos b]; exact h0
      · rw [if_neg b, if_neg (by omega)]; exact h0
  have nn := nums (P := P) (F := Fz) (T := T) hnT n
  have wF : w32 (nF P Fz T nT - nD P Fz T nT 0 n) = nF P Fz T nT - nD P Fz T nT 0 n := w32_id (by omega)
  have wP : w32 (nP P Fz T nT - nD P Fz T nT 1 n) = nP P Fz T nT - nD P Fz T nT 1 n := w32_id (by omega)
  refine ⟨if w = 0 then nD P Fz T nT 0 n else if w = 1 then nD P Fz T nT 1 n else if w = 2 then nF P Fz T nT - nD P Fz T nT 0 n else nP P Fz T nT - nD P Fz T nT 1 n, fun M K hC hq => ?_, fun M K hR hq => ?_⟩
  · apply k11_spectrum_r
    rw [hC.1.1 2 (by decide) (by decide), hC.1.1 3 (by decide) (by decide), if_neg (by omega), if_pos n1, if_pos n3]
    refine ⟨⟨n0, by omega⟩, learnRuns_r hW hC (fun M1 f1 c1 e1 => ?_)⟩
    have hK := hq M1 f1 c1
    obtain ⟨hk, hr⟩ := c1.2.1.2 e1
    obtain ⟨r118, r119, -⟩ := hr.1 n hst
    have rc := (hk.2 z).2
    have e11 : gI M1 77 11 = nF P Fz T nT := rc.2.1
    have e10 : gI M1 77 10 = nP P Fz T nT := rc.1
    rw [r118, r119, e11, e10, wF, wP]
    by_cases w0 : w = 0
    · rw [if_pos w0] at hK ⊢; exact hK
    rw [if_neg w0] at hK ⊢
    by_cases w1 : w = 1
    · rw [if_pos w1] at hK ⊢; exact hK
    rw [if_neg w1] at hK ⊢
    by_cases w2 : w = 2
    · rw [if_pos w2] at hK ⊢; exact hK
    rw [if_neg w2] at hK ⊢
    rw [if_pos (by omega)]; exact hK
  · apply k12_spectrum_r
    rw [hR.1.1.1, szw hW, if_neg (by omega), if_pos (by omega), (hR.1.1.2.2 n n0 n1).1, if_pos n3]
    refine ⟨⟨n0, by omega⟩, ?_⟩
    rw [if_neg (by omega), if_pos hw.2]
    obtain ⟨f0, hR0⟩ := th0 hR 0
    refine laysSpectra_r hW (by omega) hR0.1 (fun M1 f1 h1 => ?_)
    obtain ⟨f1', hR1⟩ := Rq hR0 f1 qp_spec
    have hK := hq M1 (f0.trans f1') hR1
    have e159 : gI M1 159 n = nD P Fz T nT 0 n := (h1.2.2 n n0 n1).1
    have e160 : gI M1 160 n = nD P Fz T nT 1 n := (h1.2.2 n n0 n1).2
    have e40 : gI M1 142 40 = nF P Fz T nT := h1.1
    have e41 : gI M1 142 41 = nP P Fz T nT := h1.2.1
    rw [e159, e160, e40, e41, wF, wP]
    by_cases w0 : w = 0
    · rw [if_pos w0] at hK ⊢; exact ⟨⟨n0, by omega⟩, hK⟩
    rw [if_neg w0] at hK ⊢
    by_cases w1 : w = 1
    · rw [if_pos w1] at hK ⊢; exact ⟨⟨n0, by omega⟩, hK⟩
    rw [if_neg w1] at hK ⊢
    by_cases w2 : w = 2
    · rw [if_pos w2] at hK ⊢; exact ⟨⟨n0, by omega⟩, hK⟩
    rw [if_neg w2] at hK ⊢; exact ⟨⟨n0, by omega⟩, hK⟩
theorem op_score {P : Pg} {T : Ts} {nT : Int} (hW : WF P) (hnT : 0 ≤ nT ∧ nT ≤ 16) (r n w : Int) : Same P T nT (k11_score r n w) (k12_score r n w) := by
  have hsz := hW.x.2.2.2.2
  have h60 := hW.le
  by_cases hz : 0 ≤ r ∧ r < 3 ∧ 0 ≤ n ∧ n < P 2 15 ∧ P 3 n ≤ 3
  case neg =>
    refine ⟨-1, fun M K hC hq => ?_, fun M K hR hq => ?_⟩
    · have hK := hq M Fr.rf hC
      apply k11_score_r
      rw [hC.1.1 2 (by decide) (by decide), hC.1.1 3 (by decide) (by decide)]
      by_cases a : r < 0
      · rw [if_pos a]; exact hK
      rw [if_neg a]
      by_cases b : r < 3
      · rw [if_pos b]
        by_cases a : n < 0
        · rw [if_pos a]; exact hK
        rw [if_neg a]
        by_cases b : n < P 2 15
        · rw [if_pos b, if_neg (by omega)]; exact ⟨⟨by omega, by omega⟩, hK⟩
        · rw [if_neg b]; exact hK
      · rw [if_neg b]; exact hK
    · have h0 := hq _ (th0 hR 0).1 (th0 hR 0).2
      apply k12_score_r
      rw [hR.1.1.1, szw hW]
      by_cases a : r < 0
      · rw [if_pos a]; exact h0
      rw [if_neg a]
      by_cases b : r ≤ 2
      · rw [if_pos b]
        by_cases c : n < 0
        · rw [if_pos c]; exact h0
        rw [if_neg c]
        by_cases d : n ≤ P 2 15 - 1
        · rw [if_pos d, (hR.1.1.2.2 n (by omega) (by omega)).1, if_neg (by omega)]; exact ⟨⟨by omega, by omega⟩, h0⟩
        · rw [if_neg d]; exact h0
      · rw [if_neg b]; exact h0
  obtain ⟨r0, r1, n0, n1, n3⟩ := hz
  have hst : isSt P n := ⟨n0, n1, n3⟩
  by_cases hw : 0 ≤ w ∧ w ≤ 1
  case neg =>
    refine ⟨-1, fun M K hC hq => ?_, fun M K hR hq => ?_⟩
    · apply k11_score_r
      rw [hC.1.1 2 (by decide) (by decide), hC.1.1 3 (by decide) (by decide), if_neg (by omega), if_pos r1, if_neg (by omega), if_pos n1, if_pos n3]
      refine ⟨⟨n0, by omega⟩, learnRuns_r hW hC (fun M1 f1 c1 e1 => ?_)⟩
      rw [if_neg (by omega), if_neg (by omega)]
      exact hq M1 f1 c1
    · have h0 := hq _ (th0 hR 0).1 (th0 hR 0).2
      apply k12_score_r
      rw [hR.1.1.1, szw hW, if_neg (by omega), if_pos (by omega), if_neg (by omega), if_pos (by omega), (hR.1.1.2.2 n n0 n1).1, if_pos n3]
      refine ⟨⟨n0, by omega⟩, ?_⟩
      by_cases b : w < 0
      · rw [if_pos b]; exact h0
      · rw [if_neg b, if_neg (by omega)]; exact h0
  refine ⟨if w = 0 then sA P Fz T nT r n else sB P Fz T nT r n, fun M K hC hq => ?_, fun M K hR hq => ?_⟩
  · apply k11_score_r
    rw [hC.1.1 2 (by decide) (by decide), hC.1.1 3 (by decide) (by decide), if_neg (by omega), if_pos r1, if_neg (by omega), if_pos n1, if_pos n3]
    refine ⟨⟨n0, by omega⟩, learnRuns_r hW hC (fun M1 f1 c1 e1 => ?_)⟩
    have hK := hq M1 f1 c1
    obtain ⟨hk, hr⟩ := c1.2.1.2 e1
    obtain ⟨-, -, rr⟩ := hr.1 n hst
    rw [(rr r r0 r1).1, (rr r r0 r1).2]
    by_cases w0 : w = 0
    · rw [if_pos w0] at hK ⊢; exact ⟨⟨r0, r1⟩, hK⟩
    rw [if_neg w0] at hK ⊢
    rw [if_pos (by omega)]; exact ⟨⟨r0, r1⟩, hK⟩
  · apply k12_score_r
    rw [hR.1.1.1, szw hW, if_neg (by omega), if_pos (by omega), if_neg (by omega), if_pos (by omega), (hR.1.1.2.2 n n0 n1).1, if_pos n3]
    refine ⟨⟨n0, by omega⟩, ?_⟩
    rw [if_neg (by omega), if_pos hw.2]
    obtain ⟨f0, hR0⟩ := th0 hR 0
    refine laysSpectra_r hW (by omega) hR0.1 (fun M1 f1 h1 => ?_)
    obtain ⟨f1', hR1⟩ := Rq hR0 f1 qp_spec
    refine sscores_r hW hnT ⟨r0, r1⟩ ⟨n0, n1⟩ h1 (fun M2 f2 a2 b2 => ?_)
    obtain ⟨f2', hR2⟩ := Rq hR1 f2 qp_sc
    have hK := hq M2 ((f0.trans f1').trans f2') hR2
    rw [a2, b2]
    by_cases w0 : w = 0
    · rw [if_pos w0] at hK ⊢; exact hK
    · rw [if_neg w0] at hK ⊢; exact hK
theorem op_suspect {P : Pg} {T : Ts} {nT : Int} (hW : WF P) (hnT : 0 ≤ nT ∧ nT ≤ 16) (r k : Int) : Same P T nT (k11_suspect r k) (k12_suspect r k) := by
  have hsz := hW.x.2.2.2.2
  obtain ⟨-, -, ⟨m0, m1, -⟩, hst, -⟩ := hW.x
  have w16' : w32 (P 2 16 - 1) = P 2 16 - 1 := w32_id (by omega)
  by_cases hz : 0 ≤ r ∧ r < 3 ∧ 0 ≤ k ∧ k < P 2 16
  case neg =>
    refine ⟨-1, fun M K hC hq => ?_, fun M K hR hq => ?_⟩
    · have hK := hq M Fr.rf hC
      apply k11_suspect_r
      rw [hC.1.1 2 (by decide) (by decide)]
      by_cases a : r < 0
      · rw [if_pos a]; exact hK
      rw [if_neg a]
      by_cases b : r < 3
      · rw [if_pos b]
        by_cases a : k < 0
        · rw [if_pos a]; exact hK
        rw [if_neg a, if_neg (by omega)]; exact hK
      · rw [if_neg b]; exact hK
    · have h0 := hq _ (th0 hR 0).1 (th0 hR 0).2
      apply k12_suspect_r
      rw [hR.1.1.2.1, w16']
      by_cases a : r < 0
      · rw [if_pos a]; exact h0
      rw [if_neg a]
      by_cases b : r ≤ 2
      · rw [if_pos b]
        by_cases c : k < 0
        · rw [if_pos c]; exact h0
        rw [if_neg c, if_neg (by omega)]; exact h0
      · rw [if_neg b]; exact h0
  obtain ⟨r0, r1, k0, k1⟩ := hz
  have hp0 : 0 < P 2 15 := by
    have := (hst k k0 k1).1
    have a1 := this.1
    have a2 := this.2.1
    omega
  refine ⟨rk P Fz T nT r k, fun M K hC hq => ?_, fun M K hR hq => ?_⟩
  · apply k11_suspect_r
    rw [hC.1.1 2 (by decide) (by decide), if_neg (by omega), if_pos r1, if_neg (by omega), if_pos k1]
    refine learnRuns_r hW hC (fun M1 f1 c1 e1 => ?_)
    have hK := hq M1 f1 c1
    obtain ⟨hk, hr⟩ := c1.2.1.2 e1
    rw [hr.2 r k r0 r1 k0 k1]
    exact ⟨⟨r0, r1⟩, ⟨k0, by omega⟩, hK⟩
  · apply k12_suspect_r
    rw [hR.1.1.2.1, w16', if_neg (by omega), if_pos (by omega), if_neg (by omega), if_pos (by omega)]
    obtain ⟨f0, hR0⟩ := th0 hR 0
    refine laysRanked_r hW hp0 ⟨r0, r1⟩ hR0.1 (fun M1 f1 h1 => ?_)
    obtain ⟨f1', hR1⟩ := Rq hR0 f1 qp_rank
    rw [h1 k k0 k1]
    exact ⟨⟨k0, by omega⟩, hq M1 (f0.trans f1') hR1⟩

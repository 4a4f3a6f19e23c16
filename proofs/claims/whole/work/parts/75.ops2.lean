-- needs 30 31 32 33a 33b 33c 33d 33e 33f 33g 33h 33i 33j 40 41 42 43 44 45 46 50 51 52 53 54 55 56 57 58 59 60 61 62 63 64 65 66 67 68 69 70 71 72 73 74
/-! calls that tell of changes and mends: the same answers -/
theorem op_changes {P : Pg} {T : Ts} {nT : Int} (hW : WF P) (n : Int) : Same P T nT (k11_changes n) (k12_changes n) := by
  have hsz := hW.x.2.2.2.2
  by_cases hz : 0 ≤ n ∧ n < P 2 15
  case neg =>
    refine ⟨-1, fun M K hC hq => ?_, fun M K hR hq => ?_⟩
    · have hK := hq M Fr.rf hC
      apply k11_changes_r
      rw [hC.1.1 2 (by decide) (by decide)]
      by_cases a : n < 0
      · rw [if_pos a]; exact hK
      rw [if_neg a, if_neg (by omega)]; exact hK
    · have h0 := hq _ (th0 hR 0).1 (th0 hR 0).2
      apply k12_changes_r
      rw [hR.1.1.1, szw hW]
      by_cases a : n < 0
      · rw [if_pos a]; exact h0
      rw [if_neg a, if_neg (by omega)]; exact h0
  refine ⟨chg P n, fun M K hC hq => ?_, fun M K hR hq => ?_⟩
  · apply k11_changes_r
    rw [hC.1.1 2 (by decide) (by decide), if_neg (by omega), if_pos hz.2]
    exact changeCount_r hW hC.1.1 hz (hq M Fr.rf hC)
  · apply k12_changes_r
    rw [hR.1.1.1, szw hW, if_neg (by omega), if_pos (by omega)]
    obtain ⟨f0, hR0⟩ := th0 hR 0
    refine changesOf_r hW hR0.1.1 hR0.1.2.2.2 hz (fun M1 f1 => ?_)
    obtain ⟨f1', hR1⟩ := Rq hR0 f1 qp_ask
    exact hq M1 (f0.trans f1') hR1
theorem hasChange_r {P : Pg} (hW : WF P) {M : pm_M} {K : Int → pm_M → Prop} {n c : Int} (hS : Sm P M) (h1 : 0 ≤ n ∧ n < P 2 15 → 0 ≤ c ∧ c < chg P n → K 1 M) (h0 : ¬ ((0 ≤ n ∧ n < P 2 15) ∧ 0 ≤ c ∧ c < chg P n) → K 0 M) : k0_hasChange n c M K := by
  apply k0_hasChange_r
  rw [hS 2 (by decide) (by decide)]
  by_cases a : n < 0
  · rw [if_pos a]; exact h0 (by omega)
  rw [if_neg a]
  by_cases b : n < P 2 15
  · rw [if_pos b]
    by_cases d : c < 0
    · rw [if_pos d]; exact h0 (by omega)
    rw [if_neg d]
    refine changeCount_r hW hS ⟨by omega, b⟩ ?_
    by_cases e : c < chg P n
    · rw [if_pos e]; exact h1 ⟨by omega, b⟩ ⟨by omega, e⟩
    · rw [if_neg e]; exact h0 (by omega)
  · rw [if_neg b]; exact h0 (by omega)
theorem passingWith_r {P : Pg} {T : Ts} {nT : Int} (hW : WF P) {M : pm_M} {K : Int → pm_M → Prop} {n c b : Int} (hn : 0 ≤ n ∧ n < P 2 15) (hc : 0 ≤ c ∧ c < chg P n) (hb : b = 0 ∨ b = 1) (hC : CI P T nT M) (hq : ∀ M', Fr pRun M M' → CI P T nT M' → K (cn (psB (pch P n c) Fz T b) nT.toNat) M') : k11_passingWith n c b M K := by
  have h60 := hW.le
  obtain ⟨hg, hc0, hcn⟩ := chg_nch hc
  have hWc := hW.ch hn ⟨hc0, hcn⟩
  obtain ⟨hS, hT, hh, hF⟩ := hC.1
  apply k11_passingWith_r
  refine ⟨⟨hn.1, by omega⟩, ?_⟩
  rw [hS 4 (by decide) (by decide), hS 5 (by decide) (by decide)]
  refine apply_r hW hS hn hc (fun M1 f1 s1 => ?_)
  obtain ⟨m1, t1⟩ := pt_keep f1 ⟨rfl, rfl, rfl, rfl⟩ (fun a i h1 h2 => by simp [pSet]; omega) hF hT
  refine countPassing_r (b := b) hWc.r hb s1 m1 t1 (fun M2 hR2 => ?_)
  have s2 := hR2.sm s1
  have s3 : Sm P (upI (upI M2 4 n (P 4 n)) 5 n (P 5 n)) := by
    have h := sm_45 (n := n) (v := P 4 n) (m := P 5 n) s2
    unfold pch at h
    rw [pset_back hS] at h
    exact h
  have f3 : Fr (fun a i => pRun a i || pSet a i) M (upI (upI M2 4 n (P 4 n)) 5 n (P 5 n)) := (((f1.mono (fun a i h => by simp only [h, Bool.or_true])).trans (hR2.fr.mono (fun a i h => by simp only [h, Bool.true_or]))).up _ (by simp [pSet])).up _ (by simp [pSet])
  have f4 : Fr pRun M (upI (upI M2 4 n (P 4 n)) 5 n (P 5 n)) := fr_back f3 (fun a i h => by simp only [Bool.or_eq_true, pSet, beq_iff_eq] at h; exact h) hS s3
  exact hq _ f4 (hC.fr f4 run_cR)
theorem cn_split {P : Pg} {F : Fo} {T : Ts} : ∀ n : Nat, cn (psB P F T 0) n + cn (nfb P F T) n + cn (hdB T 1) n = n := by
  intro n
  induction n with
  | zero => rfl
  | succ n ih =>
    show (cn (psB P F T 0) n + (if psB P F T 0 (n : Int) = true then 1 else 0)) + (cn (nfb P F T) n + (if nfb P F T (n : Int) = true then 1 else 0)) + (cn (hdB T 1) n + (if hdB T 1 (n : Int) = true then 1 else 0)) = ((n + 1 : Nat) : Int)
    unfold psB nfb
    by_cases h4 : T (n : Int) 4 = 1
    · have a : hdB T 1 (n : Int) = true := by unfold hdB; rw [if_pos h4]; rfl
      have b : hdB T 0 (n : Int) = false := by unfold hdB; rw [if_pos h4]; rfl
      rw [a, b]
      simp only [Bool.false_and, Bool.false_eq_true, if_false, if_true]
      unfold psB nfb at ih
      omega
    · have a : hdB T 1 (n : Int) = false := by unfold hdB; rw [if_neg h4]; rfl
      have b : hdB T 0 (n : Int) = true := by unfold hdB; rw [if_neg h4]; rfl
      rw [a, b]
      unfold psB nfb at ih
      rcases okT_01 P F T (n : Int) with z | z
      · rw [z]; simp only [Bool.true_and, Bool.false_eq_true, if_false, decide_eq_true_eq]
        rw [if_neg (by decide), if_pos trivial]; omega
      · rw [z]; simp only [Bool.true_and, Bool.false_eq_true, if_false, decide_eq_true_eq]
        rw [if_pos trivial, if_neg (by decide)]; omega
theorem op_change {P : Pg} {T : Ts} {nT : Int} (hW : WF P) (hnT : 0 ≤ nT ∧ nT ≤ 16) (n c w : Int) (hc32 : c < 2147483648) : Same P T nT (k11_change n c w) (k12_change n c w) := by
  have hsz := hW.x.2.2.2.2
  have h60 := hW.le
  by_cases hz : ((0 ≤ n ∧ n < P 2 15) ∧ 0 ≤ c ∧ c < chg P n) ∧ 0 ≤ w ∧ w ≤ 3
  case neg =>
    refine ⟨-200, fun M K hC hq => ?_, fun M K hR hq => ?_⟩
    · apply k11_change_r
      refine hasChange_r hW hC.1.1 (fun hn hc => ?_) (fun _ => ?_)
      · rw [if_neg (by decide), if_neg (fun y => hz ⟨⟨hn, hc⟩, by omega⟩), if_neg (fun y => hz ⟨⟨hn, hc⟩, by omega⟩), if_neg (fun y => hz ⟨⟨hn, hc⟩, by omega⟩), if_neg (fun y => hz ⟨⟨hn, hc⟩, by omega⟩)]
        exact hq M Fr.rf hC
      · rw [if_pos rfl]; exact hq M Fr.rf hC
    · obtain ⟨f0, hR0⟩ := th0 hR 0
      have h0 := hq _ f0 hR0
      apply k12_change_r
      rw [hR.1.1.1, szw hW]
      by_cases a : n < 0
      · rw [if_pos a]; exact h0
      rw [if_neg a]
      by_cases b : n ≤ P 2 15 - 1
      · rw [if_pos b]
        by_cases d : w < 0
        · rw [if_pos d]; exact h0
        rw [if_neg d]
        by_cases e : w ≤ 3
        · rw [if_pos e]
          refine asks_r hW hR0.1.1 hR0.1.2.2.2 ⟨by omega, by omega⟩ hc32 (fun _ M1 f1 => ?_) (fun y0 y1 => absurd ⟨⟨⟨by omega, by omega⟩, y0, y1⟩, by omega, e⟩ hz)
          rw [if_pos rfl]
          obtain ⟨f1', hR1⟩ := Rq hR0 f1 qp_ask
          exact hq M1 (f0.trans f1') hR1
        · rw [if_neg e]; exact h0
      · rw [if_neg b]; exact h0
  obtain ⟨⟨hn, hc⟩, w0, w3⟩ := hz
  obtain ⟨hg, hc0, hcn⟩ := chg_nch hc
  have hWc := hW.ch hn ⟨hc0, hcn⟩
  have hp0 : 0 < P 2 15 := by omega
  have c8 := chg_le (P := P) (n := n)
  have n7 : P 3 n = 7 → c < 5 := by
    intro e7
    have : nch P n ≤ 5 := by unfold nch; rw [if_neg (by omega), if_neg (by omega), if_neg (by omega), if_pos e7]; split <;> omega
    omega
  have hb2 : (allP P Fz T nT ↔ cn (nfb P Fz T) nT.toNat = 0) := allP_cn hnT.1
  have hb3 : (allP (pch P n c) Fz T nT ↔ cn (psB (pch P n c) Fz T 0) nT.toNat = nT - cn (hdB T 1) nT.toNat) := by
    rw [allP_cn hnT.1]
    have := cn_split (P := pch P n c) (F := Fz) (T := T) nT.toNat
    omega
  refine ⟨if w = 0 then cn (psB (pch P n c) Fz T 0) nT.toNat else if w = 1 then cn (psB (pch P n c) Fz T 1) nT.toNat else if w = 2 then @ite Int (¬ allP P Fz T nT ∧ allP (pch P n c) Fz T nT) (Classical.propDecidable _) 1 0 else mks P n c, fun M K hC hq => ?_, fun M K hR hq => ?_⟩
  · apply k11_change_r
    refine hasChange_r hW hC.1.1 (fun _ _ => ?_) (fun y => absurd ⟨hn, hc⟩ y)
    rw [if_neg (by decide)]
    by_cases e0 : w = 0
    · rw [if_pos e0] at hq ⊢
      exact passingWith_r hW hn hc (Or.inl rfl) hC (fun M1 f1 c1 => hq M1 (run_C f1) c1)
    rw [if_neg e0] at hq ⊢
    by_cases e1 : w = 1
    · rw [if_pos e1] at hq ⊢
      exact passingWith_r hW hn hc (Or.inr rfl) hC (fun M1 f1 c1 => hq M1 (run_C f1) c1)
    rw [if_neg e1] at hq ⊢
    by_cases e2 : w = 2
    · rw [if_pos e2] at hq ⊢
      refine learnRuns_r hW hC (fun M1 f1 c1 z1 => ?_)
      have rc := ((c1.2.1.2 z1).1.2 (by omega)).2
      rw [rc.2.1]
      have l1 := cn_le (nfb P Fz T) nT.toNat
      by_cases ha : allP P Fz T nT
      · rw [if_pos (by have := hb2.mp ha; omega)]
        have hK := hq M1 f1 c1
        rw [if_neg (fun y => y.1 ha)] at hK
        exact hK
      · rw [if_neg (fun y => ha (hb2.mpr (by omega)))]
        refine passingWith_r hW hn hc (Or.inl rfl) c1 (fun M2 f2 c2 => ?_)
        have hK := hq M2 (f1.trans (run_C f2)) c2
        have l2 := cn_le (hdB T 1) nT.toNat
        rw [c2.1.2.1.1, c2.1.2.2.1, w32_id (by omega)]
        by_cases hb : allP (pch P n c) Fz T nT
        · rw [if_pos ⟨ha, hb⟩] at hK
          rw [if_pos (hb3.mp hb)]; exact hK
        · rw [if_neg (fun y => hb y.2)] at hK
          rw [if_neg (fun y => hb (hb3.mpr y))]; exact hK
    rw [if_neg e2] at hq ⊢
    rw [if_pos (by omega)]
    exact makes_r hW hC.1.1 hn ⟨hc.1, by omega⟩ n7 (hq M Fr.rf hC)
  · obtain ⟨f0, hR0⟩ := th0 hR 0
    apply k12_change_r
    rw [hR.1.1.1, szw hW, if_neg (by omega), if_pos (by omega), if_neg (by omega), if_pos w3]
    refine asks_r hW hR0.1.1 hR0.1.2.2.2 hn hc32 (fun y => absurd hc y) (fun _ _ M1 f1 hN1 => ?_)
    obtain ⟨f1', hR1⟩ := Rq hR0 f1 qp_ask
    have g1 := f0.trans f1'
    rw [if_neg (by decide)]
    by_cases e3 : w = 3
    · rw [if_pos e3]
      rw [if_neg (by omega), if_neg (by omega), if_neg (by omega)] at hq
      have hK := hq M1 g1 hR1
      rw [show gI M1 153 n = gI (upI M 142 0 0) 153 n from f1.g rfl]
      rw [← hN1.2.2] at hK
      exact ⟨⟨hn.1, by omega⟩, pm_ifK hK⟩
    rw [if_neg e3]
    -- with the change put in
    have withIt : ∀ M2 (Q : Int → pm_M → Prop), Fr qR M M2 → RI P T nT M2 → (∀ M3, RB (pch P n c) Fz T nT (put0 M3 n (gI M3 142 45) (gI M3 142 46)) → RI P T nT M3 → Fr qR M M3 → Q 1 M3) → k12_asks n c M2 Q := by
      intro M2 Q f2 r2 hQ
      refine asks_r hW r2.1.1 r2.1.2.2.2 hn hc32 (fun y => absurd hc y) (fun _ _ M3 f3 hN3 => ?_)
      obtain ⟨f3', hR3⟩ := Rq r2 f3 qp_ask
      exact hQ M3 (put0_rb h60 hR3.1 hn hN3) hR3 (f2.trans f3')
    have takeOut : ∀ M3 M4, RI P T nT M3 → Fr qR M M3 → Qf (put0 M3 n (gI M3 142 45) (gI M3 142 46)) M4 → gI M4 162 0 = n ∧ gI M4 163 0 = gI M3 146 n ∧ gI M4 164 0 = gI M3 153 n ∧ Fr qR M (upI (upI M4 146 n (gI M3 146 n)) 153 n (gI M3 153 n)) ∧ RI P T nT (upI (upI M4 146 n (gI M3 146 n)) 153 n (gI M3 153 n)) := by
      intro M3 M4 r3 f3 hQ
      obtain ⟨q1, q2, q3, q4⟩ := rback hQ.fr (fun a i h => by simp [qRun]; omega)
      obtain ⟨f4, r4⟩ := Rq r3 q4 (fun a i h => qp_val a i (by simp only [qVal]; exact h))
      exact ⟨q1, q2, q3, f3.trans f4, r4⟩
    have counts : ∀ b, (b = 0 ∨ b = 1) → (∀ M', Fr qR M M' → RI P T nT M' → K (cn (psB (pch P n c) Fz T b) nT.toNat) M') → ∀ M3, RB (pch P n c) Fz T nT (put0 M3 n (gI M3 142 45) (gI M3 142 46)) → RI P T nT M3 → Fr qR M M3 → k12_manyPass b (put0 M3 n (gI M3 142 45) (gI M3 142 46)) (fun r28 M27 => ((0 ≤ gI M27 162 0 ∧ gI M27 162 0 < 800) ∧ ((0 ≤ gI M27 162 0 ∧ gI M27 162 0 < 60) ∧ K r28 (upI (upI M27 146 (gI M27 162 0) (gI M27 163 0)) 153 (gI M27 162 0) (gI M27 164 0))))) := by
      intro b hb hk M3 b3 r3 f3
      refine manyPass_r (P := pch P n c) (F := Fz) (T := T) (nT := nT) hWc.r hWc.s hWc.t hp0 hb b3.1 b3.2.1 b3.2.2.1 (fun M4 hQ => ?_)
      obtain ⟨q1, q2, q3, q4, q5⟩ := takeOut M3 M4 r3 f3 hQ
      rw [q1, q2, q3]
      exact ⟨⟨hn.1, by omega⟩, ⟨hn.1, by omega⟩, hk _ q4 q5⟩
    refine allPass_r (P := P) (F := Fz) (T := T) (nT := nT) hW.r hW.s hW.t hp0 hR1.1.1 hR1.1.2.1 hR1.1.2.2.1 ?_ ?_
    · intro ha M2 hQ2
      obtain ⟨f2, r2⟩ := Rq hR1 hQ2.fr qp_run
      rw [if_neg (by decide)]
      refine withIt M2 _ (g1.trans f2) r2 (fun M3 b3 r3 f3 => ?_)
      refine ⟨⟨hn.1, by omega⟩, ⟨hn.1, by omega⟩, ?_⟩
      by_cases e2 : w = 2
      · rw [if_pos e2]
        rw [if_neg (by omega), if_neg (by omega), if_pos e2, if_neg (fun y => y.1 ha)] at hq
        obtain ⟨q1, q2, q3, q4, q5⟩ := takeOut M3 _ r3 f3 Qf.rf
        exact hq _ q4 q5
      rw [if_neg e2]
      by_cases e1 : w = 1
      · rw [if_pos e1]
        rw [if_neg (by omega), if_pos e1] at hq
        exact counts 1 (Or.inr rfl) hq M3 b3 r3 f3
      · rw [if_neg e1]
        rw [if_pos (by omega)] at hq
        exact counts 0 (Or.inl rfl) hq M3 b3 r3 f3
    · intro ha M2 hQ2
      obtain ⟨f2, r2⟩ := Rq hR1 hQ2.fr qp_run
      rw [if_pos rfl]
      refine withIt M2 _ (g1.trans f2) r2 (fun M3 b3 r3 f3 => ?_)
      refine ⟨⟨hn.1, by omega⟩, ⟨hn.1, by omega⟩, ?_⟩
      by_cases e2 : w = 2
      · rw [if_pos e2]
        rw [if_neg (by omega), if_neg (by omega), if_pos e2] at hq
        refine allPass_r (P := pch P n c) (F := Fz) (T := T) (nT := nT) hWc.r hWc.s hWc.t hp0 b3.1 b3.2.1 b3.2.2.1 ?_ ?_
        · intro hb M4 hQ4
          obtain ⟨q1, q2, q3, q4, q5⟩ := takeOut M3 M4 r3 f3 hQ4
          rw [if_neg (by decide), q1, q2, q3]
          rw [if_pos ⟨ha, hb⟩] at hq
          exact ⟨⟨hn.1, by omega⟩, ⟨hn.1, by omega⟩, hq _ q4 q5⟩
        · intro hb M4 hQ4
          obtain ⟨q1, q2, q3, q4, q5⟩ := takeOut M3 M4 r3 f3 hQ4
          rw [if_pos rfl, q1, q2, q3]
          rw [if_neg (fun y => hb y.2)] at hq
          exact ⟨⟨hn.1, by omega⟩, ⟨hn.1, by omega⟩, hq _ q4 q5⟩
      rw [if_neg e2]
      by_cases e1 : w = 1
      · rw [if_pos e1]
        rw [if_neg (by omega), if_pos e1] at hq
        exact counts 1 (Or.inr rfl) hq M3 b3 r3 f3
      · rw [if_neg e1]
        rw [if_pos (by omega)] at hq
        exact counts 0 (Or.inl rfl) hq M3 b3 r3 f3

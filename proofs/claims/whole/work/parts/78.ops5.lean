-- needs 30 31 32 33a 33b 33c 33d 33e 33f 33g 33h 33i 33j 40 41 42 43 44 45 46 50 51 52 53 54 55 56 57 58 59 60 61 62 63 64 65 66 67 68 69 70 71 72 73 74 75 76 77
/-! node, test, take, undo -/
def SameT (P : Pg) (T : Ts) (nT : Int) (k : Nat → pm_M → (Int → Int → pm_M → Prop) → Prop) (k' : pm_M → (Int → pm_M → Prop) → Prop) : Prop := ∃ fl a, (fl = 0 ∨ fl = 1) ∧ (∀ (c : Nat) (M : pm_M) (K : Int → Int → pm_M → Prop), CI P T nT M → 1 ≤ c → K fl a M → k c M K) ∧ (∀ (M : pm_M) (K : Int → pm_M → Prop), RI P T nT M → (∀ M', Fr qR M M' → RI P T nT M' → gI M' 142 0 = fl → K a M') → k' M K)
theorem op_node {P : Pg} {T : Ts} {nT : Int} (hW : WF P) (n w : Int) : SameT P T nT (fun c => k11_node c n w) (k12_node n w) := by
  have hsz := hW.x.2.2.2.2
  have h60 := hW.le
  by_cases hz : (0 ≤ n ∧ n < P 2 15) ∧ 0 ≤ w ∧ w ≤ 4
  case neg =>
    refine ⟨1, 0, Or.inr rfl, fun c M K hC hc hK => ?_, fun M K hR hq => ?_⟩
    · apply k11_node_r
      rw [hC.1.1 2 (by decide) (by decide)]
      by_cases a : n < 0
      · rw [if_pos a]; exact ⟨hc, hK⟩
      rw [if_neg a]
      by_cases b : n < P 2 15
      · rw [if_pos b, if_neg (by omega), if_neg (by omega), if_neg (by omega), if_neg (by omega), if_neg (by omega)]; exact ⟨hc, hK⟩
      · rw [if_neg b]; exact ⟨hc, hK⟩
    · have h0 := hq _ (th0 hR 1).1 (th0 hR 1).2 (gI_eq _ _ _ _)
      apply k12_node_r
      rw [hR.1.1.1, szw hW]
      by_cases a : n < 0
      · rw [if_pos a]; exact h0
      rw [if_neg a]
      by_cases b : n ≤ P 2 15 - 1
      · rw [if_pos b]
        by_cases d : w < 0
        · rw [if_pos d]; exact h0
        · rw [if_neg d, if_neg (by omega)]; exact h0
      · rw [if_neg b]; exact h0
  obtain ⟨hn, w0, w4⟩ := hz
  obtain ⟨⟨x0, x7⟩, -⟩ := hW.x.1 n hn.1 hn.2
  -- the answer that is told of the marks
  by_cases hg : gone P n ∧ w = 4
  · obtain ⟨hg, e4⟩ := hg
    refine ⟨0, 1, Or.inl rfl, fun c M K hC hc hK => ?_, fun M K hR hq => ?_⟩
    · apply k11_node_r
      rw [hC.1.1 2 (by decide) (by decide), if_neg (by omega), if_pos hn.2, if_neg (by omega), if_neg (by omega), if_neg (by omega), if_neg (by omega), if_pos e4]
      refine isGone_r hC.1.1 h60 hW.t hW.x hn (fun _ => ?_) (fun y => absurd hg y)
      rw [if_neg (by decide)]; exact hK
    · have h0 := hq _ (th0 hR 0).1 (th0 hR 0).2 (gI_eq _ _ _ _)
      apply k12_node_r
      rw [hR.1.1.1, szw hW, if_neg (by omega), if_pos (by omega), if_neg (by omega), if_pos w4, if_neg (by omega), if_neg (by omega), if_neg (by omega), if_neg (by omega)]
      refine risGone_r h60 (th0 hR 0).2.1.1 hW.t hW.x hn (fun _ => ?_) (fun y => absurd hg y)
      rw [if_neg (by decide)]; exact h0
  refine ⟨0, if w = 0 then P 3 n else if w = 1 then (if P 3 n = 0 ∨ P 3 n = 4 ∨ P 3 n = 5 ∨ P 3 n = 7 then P 4 n else -100) else if w = 2 then P 6 n else if w = 3 then P 7 n else P 5 n, Or.inl rfl, fun c M K hC hc hK => ?_, fun M K hR hq => ?_⟩
  · apply k11_node_r
    rw [hC.1.1 2 (by decide) (by decide), hC.1.1 3 (by decide) (by decide), hC.1.1 6 (by decide) (by decide), hC.1.1 7 (by decide) (by decide), if_neg (by omega), if_pos hn.2]
    by_cases e0 : w = 0
    · rw [if_pos e0] at hK ⊢; exact ⟨⟨hn.1, by omega⟩, hK⟩
    rw [if_neg e0] at hK ⊢
    by_cases e1 : w = 1
    · rw [if_pos e1] at hK ⊢
      apply k0_told_r
      rw [hC.1.1 3 (by decide) (by decide), hC.1.1 4 (by decide) (by decide)]
      refine ⟨⟨hn.1, by omega⟩, ?_⟩
      have h8 : P 3 n = 0 ∨ P 3 n = 1 ∨ P 3 n = 2 ∨ P 3 n = 3 ∨ P 3 n = 4 ∨ P 3 n = 5 ∨ P 3 n = 6 ∨ P 3 n = 7 := by omega
      rcases h8 with e | e | e | e | e | e | e | e <;> rw [e] at hK ⊢ <;> simpa using hK
    rw [if_neg e1] at hK ⊢
    by_cases e2 : w = 2
    · rw [if_pos e2] at hK ⊢; exact ⟨⟨hn.1, by omega⟩, hK⟩
    rw [if_neg e2] at hK ⊢
    by_cases e3 : w = 3
    · rw [if_pos e3] at hK ⊢; exact ⟨⟨hn.1, by omega⟩, hK⟩
    rw [if_neg e3] at hK ⊢
    rw [if_pos (by omega)]
    refine isGone_r hC.1.1 h60 hW.t hW.x hn (fun y => absurd ⟨y, by omega⟩ hg) (fun _ => ?_)
    rw [if_pos rfl, hC.1.1 5 (by decide) (by decide)]
    exact ⟨⟨hn.1, by omega⟩, hK⟩
  · obtain ⟨f0, hR0⟩ := th0 hR 0
    have hK := hq _ f0 hR0 (gI_eq _ _ _ _)
    obtain ⟨q3, q4, ⟨q7, q7', q5⟩, -, -, -, q6⟩ := hR.1.1.2.2 n hn.1 hn.2
    apply k12_node_r
    rw [hR.1.1.1, szw hW, if_neg (by omega), if_pos (by omega), if_neg (by omega), if_pos w4, q3, q6]
    by_cases e0 : w = 0
    · rw [if_pos e0] at hK ⊢; exact ⟨⟨hn.1, by omega⟩, hK⟩
    rw [if_neg e0] at hK ⊢
    by_cases e1 : w = 1
    · rw [if_pos e1] at hK ⊢
      refine ⟨⟨hn.1, by omega⟩, ?_⟩
      by_cases k6 : P 3 n = 6
      · rw [if_pos k6]; rw [if_neg (by omega)] at hK; exact hK
      rw [if_neg k6]
      by_cases k1 : P 3 n < 1
      · rw [if_pos k1, q4 (by omega)]; rw [if_pos (by omega)] at hK; exact hK
      rw [if_neg k1]
      by_cases k3 : P 3 n ≤ 3
      · rw [if_pos k3]; rw [if_neg (by omega)] at hK; exact hK
      · rw [if_neg k3, q4 (by omega)]; rw [if_pos (by omega)] at hK; exact hK
    rw [if_neg e1] at hK ⊢
    by_cases e2 : w = 2
    · rw [if_pos e2] at hK ⊢; exact ⟨⟨hn.1, by omega⟩, hK⟩
    rw [if_neg e2] at hK ⊢
    by_cases e3 : w = 3
    · rw [if_pos e3] at hK ⊢
      exact statementOf_r h60 hR0.1.1 hW.x hn hK
    rw [if_neg e3] at hK ⊢
    refine risGone_r h60 hR0.1.1 hW.t hW.x hn (fun y => absurd ⟨y, by omega⟩ hg) (fun hng => ?_)
    have n1 : ¬ P 5 n = 1 := fun z => hng (Or.inl z)
    have e153 : gI (upI M 142 0 0) 153 n = gI M 153 n := gI_ne _ _ _ _ (by decide)
    rw [if_pos rfl, e153]
    refine ⟨⟨hn.1, by omega⟩, ?_⟩
    have bit : pm_iand (gI M 153 n) 1 ≤ 0 := by
      by_cases z : pm_iand (gI M 153 n) 1 ≤ 0
      · exact z
      · exact absurd (by rw [q5, cm_1]; exact z) n1
    rw [q5] at hK
    unfold cm at hK
    rw [if_pos bit] at hK
    by_cases y2 : pm_iand (gI M 153 n) 2 ≤ 0
    · rw [if_pos y2] at hK ⊢
      by_cases y4 : pm_iand (gI M 153 n) 4 ≤ 0
      · rw [if_pos y4] at hK ⊢; exact hK
      · rw [if_neg y4] at hK ⊢; exact hK
    · rw [if_neg y2] at hK ⊢; exact hK
theorem op_test {P : Pg} {T : Ts} {nT : Int} (hnT : 0 ≤ nT ∧ nT ≤ 16) (t w : Int) : SameT P T nT (fun c => k11_test c t w) (k12_test t w) := by
  by_cases hz : (0 ≤ t ∧ t < nT) ∧ 0 ≤ w ∧ w ≤ 4
  case neg =>
    refine ⟨1, 0, Or.inr rfl, fun c M K hC hc hK => ?_, fun M K hR hq => ?_⟩
    · apply k11_test_r
      rw [hC.1.2.1.1]
      by_cases a : t < 0
      · rw [if_pos a]; exact ⟨hc, hK⟩
      rw [if_neg a]
      by_cases b : t < nT
      · rw [if_pos b]
        by_cases d : w < 0
        · rw [if_pos d]; exact ⟨hc, hK⟩
        · rw [if_neg d, if_neg (by omega)]; exact ⟨hc, hK⟩
      · rw [if_neg b]; exact ⟨hc, hK⟩
    · have h0 := hq _ (th0 hR 1).1 (th0 hR 1).2 (gI_eq _ _ _ _)
      apply k12_test_r
      rw [hR.1.2.2.1.1, ntw hnT]
      by_cases a : t < 0
      · rw [if_pos a]; exact h0
      rw [if_neg a]
      by_cases b : t ≤ nT - 1
      · rw [if_pos b]
        by_cases d : w < 0
        · rw [if_pos d]; exact h0
        · rw [if_neg d, if_neg (by omega)]; exact h0
      · rw [if_neg b]; exact h0
  obtain ⟨⟨t0, t1⟩, w0, w4⟩ := hz
  refine ⟨0, T t w, Or.inl rfl, fun c M K hC hc hK => ?_, fun M K hR hq => ?_⟩
  · apply k11_test_r
    rw [hC.1.2.1.1, if_neg (by omega), if_pos t1, if_neg (by omega), if_pos (by omega), hC.1.2.1.2.2 t w t0 t1 w0 (by omega)]
    exact ⟨⟨t0, by omega⟩, ⟨w0, by omega⟩, hK⟩
  · have h0 := hq _ (th0 hR 0).1 (th0 hR 0).2 (gI_eq _ _ _ _)
    apply k12_test_r
    have w5 : w32 (w32 (5 * t) + w) = 5 * t + w := by rw [w32_id (show -2147483648 ≤ 5 * t ∧ 5 * t < 2147483648 by omega), w32_id (by omega)]
    rw [hR.1.2.2.1.1, ntw hnT, if_neg (by omega), if_pos (by omega), if_neg (by omega), if_pos w4, w5, hR.1.2.2.1.2.2 t w t0 t1 w0 (by omega)]
    exact ⟨⟨by omega, by omega⟩, h0⟩
/-- what is taken, kept -/
def pstk (P : Pg) (n : Int) : Pg := fun a => if a = 15 then fput (P 15) (P 2 17) n else if a = 16 then fput (P 16) (P 2 17) (P 4 n) else if a = 17 then fput (P 17) (P 2 17) (P 5 n) else if a = 2 then fput (P 2) 17 (P 2 17 + 1) else P a
def pdrp (P : Pg) : Pg := fun a => if a = 2 then fput (P 2) 17 (P 2 17 - 1) else P a
theorem WF.alike {P Q : Pg} (h : WF P) (h2 : Q 2 15 = P 2 15 ∧ Q 2 16 = P 2 16 ∧ Q 2 18 = P 2 18) (ho : ∀ a, a ≠ 2 → a ≠ 15 → a ≠ 16 → a ≠ 17 → Q a = P a) : WF Q := by
  obtain ⟨⟨r1, r2, r3⟩, hs, ht, hx, ⟨v1, v2⟩⟩ := h
  have e3 := ho 3 (by decide) (by decide) (by decide) (by decide)
  have e4 := ho 4 (by decide) (by decide) (by decide) (by decide)
  have e6 := ho 6 (by decide) (by decide) (by decide) (by decide)
  have e7 := ho 7 (by decide) (by decide) (by decide) (by decide)
  have e8 := ho 8 (by decide) (by decide) (by decide) (by decide)
  have e9 := ho 9 (by decide) (by decide) (by decide) (by decide)
  have e10 := ho 10 (by decide) (by decide) (by decide) (by decide)
  have e11 := ho 11 (by decide) (by decide) (by decide) (by decide)
  have e12 := ho 12 (by decide) (by decide) (by decide) (by decide)
  have e14 := ho 14 (by decide) (by decide) (by decide) (by decide)
  have e20 := ho 20 (by decide) (by decide) (by decide) (by decide)
  have e21 := ho 21 (by decide) (by decide) (by decide) (by decide)
  have e22 := ho 22 (by decide) (by decide) (by decide) (by decide)
  have e23 := ho 23 (by decide) (by decide) (by decide) (by decide)
  have e24 := ho 24 (by decide) (by decide) (by decide) (by decide)
  obtain ⟨z1, z2, z3⟩ := h2
  refine ⟨⟨?_, ?_, ?_⟩, ?_, ?_, ?_, ⟨?_, ?_⟩⟩
  · rw [z1]; exact r1
  · intro s s0 s1 s3
    rw [z1] at s1; rw [e3] at s3; rw [z1, e9]
    obtain ⟨f, hE, hl⟩ := r2 s s0 s1 s3
    exact ⟨f, Ex.congr e3 e8 hE, hl⟩
  · rw [z1, e3, e4]; exact r3
  · unfold PWs isSt cont at *
    rw [z1, e3, e6, e10, e11, e12, e20, e21, e22]; exact hs
  · unfold PWt isSt at *
    rw [z1, e3, e6, e20, e23, e24]; exact ht
  · unfold PWx isSt at *
    rw [z1, z2, e3, e6, e7, e9, e14, e23]; exact hx
  · rw [z3]; exact v1
  · rw [z1, z3, e3, e4]; exact v2
theorem gone_alike {P Q : Pg} (h5 : Q 5 = P 5) (h6 : Q 6 = P 6) (h7 : Q 7 = P 7) (n : Int) : gone Q n ↔ gone P n := by
  have hN : ∀ f s, NL Q f s ↔ NL P f s := by
    intro f
    induction f with
    | zero => intro s; exact Iff.rfl
    | succ f ih =>
      intro s
      show (Q 6 s = -1 ∨ (¬ Q 5 (Q 6 s) = 1 ∧ NL Q f (Q 6 s))) ↔ (P 6 s = -1 ∨ (¬ P 5 (P 6 s) = 1 ∧ NL P f (P 6 s)))
      rw [h6, h5, ih]
  unfold gone NLa
  rw [h5, h7]
  constructor
  · intro h; rcases h with h | h | h
    · exact Or.inl h
    · exact Or.inr (Or.inl h)
    · exact Or.inr (Or.inr (fun z => h (fun f => (hN f _).mpr (z f))))
  · intro h; rcases h with h | h | h
    · exact Or.inl h
    · exact Or.inr (Or.inl h)
    · exact Or.inr (Or.inr (fun z => h (fun f => (hN f _).mp (z f))))
theorem chg_alike {P Q : Pg} (h2 : Q 2 18 = P 2 18) (h3 : Q 3 = P 3) (h4 : Q 4 = P 4) (h5 : Q 5 = P 5) (h6 : Q 6 = P 6) (h7 : Q 7 = P 7) (n : Int) : chg Q n = chg P n := by
  have hg := gone_alike h5 h6 h7 n
  have hn : nch Q n = nch P n := by unfold nch; rw [h2, h3, h4]
  by_cases g : gone P n
  · rw [chg_gone g, chg_gone (hg.mpr g)]
  · rw [chg_not g, chg_not (fun z => g (hg.mp z)), hn]
def pForget (a i : Nat) : Bool := (a == 0 && i == 14) || (a == 132 && i == 11) || (a == 138 && i == 14) || (a == 141 && i == 3)
/-- what was known is forgotten -/
theorem CI.forget {P : Pg} {T : Ts} {nT : Int} {M : pm_M} (hS : Sm P M) (hT : CT T nT M) (hh : gI M 18 2 = cn (hdB T 1) nT.toNat) (hF : Fm Fz M) : CI P T nT (upI (upI (upI (upI M 0 14 0) 132 11 0) 138 14 0) 141 3 (-1)) := by
  have f : Fr pForget M (upI (upI (upI (upI M 0 14 0) 132 11 0) 138 14 0) 141 3 (-1)) := (((Fr.rf.up _ rfl).up _ rfl).up _ rfl).up _ rfl
  have hnT := hT.2.1
  have e1 : gI (upI (upI (upI (upI M 0 14 0) 132 11 0) 138 14 0) 141 3 (-1)) 0 14 = 0 := by rw [gI_ne _ _ _ _ (by decide), gI_ne _ _ _ _ (by decide), gI_ne _ _ _ _ (by decide), gI_eq]
  have e2 : gI (upI (upI (upI (upI M 0 14 0) 132 11 0) 138 14 0) 141 3 (-1)) 132 11 = 0 := by rw [gI_ne _ _ _ _ (by decide), gI_ne _ _ _ _ (by decide), gI_eq]
  have e3 : gI (upI (upI (upI (upI M 0 14 0) 132 11 0) 138 14 0) 141 3 (-1)) 138 14 = 0 := by rw [gI_ne _ _ _ _ (by decide), gI_eq]
  have e4 : gI (upI (upI (upI (upI M 0 14 0) 132 11 0) 138 14 0) 141 3 (-1)) 141 3 = -1 := gI_eq _ _ _ _
  generalize upI (upI (upI (upI M 0 14 0) 132 11 0) 138 14 0) 141 3 (-1) = M1 at *
  refine ⟨⟨f.sm hS (fun a i a1 a2 => by simp [pForget]; omega), ⟨by rw [f.g rfl]; exact hT.1, hnT, fun t j t0 t1 j0 j1 => by rw [f.g (by simp [pForget]; omega)]; exact hT.2.2 t j t0 t1 j0 j1⟩, by rw [f.g rfl]; exact hh, ⟨by rw [f.g rfl]; exact hF.1, fun y => absurd y (by decide), by rw [f.g rfl]; exact hF.2.2.1, Or.inl rfl⟩⟩, ⟨Or.inl e1, fun z => by omega⟩, ⟨Or.inl e2, fun z => by omega⟩, ⟨Or.inl e3, fun z => by omega⟩, fun n n0 n1 z => by omega⟩
/-- a call that leads from a program to another -/
def SameP (P P' : Pg) (T : Ts) (nT : Int) (k k' : pm_M → (Int → pm_M → Prop) → Prop) : Prop := ∃ a, (∀ (M : pm_M) (K : Int → pm_M → Prop), CI P T nT M → (∀ M', Fr pC M M' → CI P' T nT M' → K a M') → k M K) ∧ (∀ (M : pm_M) (K : Int → pm_M → Prop), RI P T nT M → (∀ M', Fr qR M M' → RI P' T nT M' → K a M') → k' M K)
theorem op_take {P : Pg} {T : Ts} {nT : Int} (hW : WF P) (hK : WK P) (n c : Int) (hc32 : c < 2147483648) : ∃ P', WF P' ∧ WK P' ∧ SameP P P' T nT (k11_take n c) (k12_take n c) := by
  have hsz := hW.x.2.2.2.2
  have h60 := hW.le
  obtain ⟨⟨k0, k20⟩, hk⟩ := hK
  by_cases hz : ((0 ≤ n ∧ n < P 2 15) ∧ 0 ≤ c ∧ c < chg P n) ∧ P 2 17 < 20
  case neg =>
    refine ⟨P, hW, ⟨⟨k0, k20⟩, hk⟩, -1, fun M K hC hq => ?_, fun M K hR hq => ?_⟩
    · have hKK := hq M Fr.rf hC
      apply k11_take_r
      refine hasChange_r hW hC.1.1 (fun hn hc => ?_) (fun _ => ?_)
      · rw [if_neg (by decide), hC.1.1 2 (by decide) (by decide), if_neg (fun y => hz ⟨⟨hn, hc⟩, y⟩)]; exact hKK
      · rw [if_pos rfl]; exact hKK
    · obtain ⟨f0, hR0⟩ := th0 hR 0
      have h0 := hq _ f0 hR0
      apply k12_take_r
      rw [hR.1.1.1, szw hW, hR.2.1]
      by_cases a : n < 0
      · rw [if_pos a]; exact h0
      rw [if_neg a]
      by_cases b : n ≤ P 2 15 - 1
      · rw [if_pos b]
        by_cases d : P 2 17 = 20
        · rw [if_pos d]; exact h0
        rw [if_neg d]
        refine asks_r hW hR0.1.1 hR0.1.2.2.2 ⟨by omega, by omega⟩ hc32 (fun _ M1 f1 => ?_) (fun y0 y1 => absurd ⟨⟨⟨by omega, by omega⟩, y0, y1⟩, by omega⟩ hz)
        rw [if_pos rfl]
        obtain ⟨f1', hR1⟩ := Rq hR0 f1 qp_ask
        exact hq M1 (f0.trans f1') hR1
      · rw [if_neg b]; exact h0
  obtain ⟨⟨hn, hc⟩, hlt⟩ := hz
  obtain ⟨hg, hc0, hcn⟩ := chg_nch hc
  obtain ⟨q0, hq0⟩ : ∃ q, q = P 2 17 := ⟨_, rfl⟩
  have hWs : WF (pstk P n) := hW.alike ⟨rfl, rfl, rfl⟩ (fun a a2 a15 a16 a17 => by
    show (if a = 15 then fput (P 15) (P 2 17) n else if a = 16 then fput (P 16) (P 2 17) (P 4 n) else if a = 17 then fput (P 17) (P 2 17) (P 5 n) else if a = 2 then fput (P 2) 17 (P 2 17 + 1) else P a) = P a
    rw [if_neg a15, if_neg a16, if_neg a17, if_neg a2])
  have hcs : chg (pstk P n) n = chg P n := chg_alike (P := P) (Q := pstk P n) rfl rfl rfl rfl rfl rfl n
  have hW' : WF (pch (pstk P n) n c) := hWs.ch hn ⟨hc0, hcn⟩
  have s15 : ∀ i, 0 ≤ i → (pch (pstk P n) n c) 15 i = if i = P 2 17 then n else P 15 i := fun i i0 => by
    show (if i.toNat = (P 2 17).toNat then n else P 15 i) = _
    by_cases e : i = P 2 17
    · rw [if_pos e, if_pos (by omega)]
    · rw [if_neg e, if_neg (by omega)]
  have s16 : ∀ i, 0 ≤ i → (pch (pstk P n) n c) 16 i = if i = P 2 17 then P 4 n else P 16 i := fun i i0 => by
    show (if i.toNat = (P 2 17).toNat then P 4 n else P 16 i) = _
    by_cases e : i = P 2 17
    · rw [if_pos e, if_pos (by omega)]
    · rw [if_neg e, if_neg (by omega)]
  have s17 : ∀ i, 0 ≤ i → (pch (pstk P n) n c) 17 i = if i = P 2 17 then P 5 n else P 17 i := fun i i0 => by
    show (if i.toNat = (P 2 17).toNat then P 5 n else P 17 i) = _
    by_cases e : i = P 2 17
    · rw [if_pos e, if_pos (by omega)]
    · rw [if_neg e, if_neg (by omega)]
  have s2 : (pch (pstk P n) n c) 2 17 = P 2 17 + 1 := rfl
  have e3 : (pch (pstk P n) n c) 3 = P 3 := rfl
  have e215 : (pch (pstk P n) n c) 2 15 = P 2 15 := rfl
  have e218 : (pch (pstk P n) n c) 2 18 = P 2 18 := rfl
  refine ⟨pch (pstk P n) n c, hW', ⟨⟨by rw [s2]; omega, by rw [s2]; omega⟩, fun i i0 i1 => ?_⟩, P 2 17 + 1, fun M K hC hq => ?_, fun M K hR hq => ?_⟩
  · rw [s2] at i1
    rw [e3, e215, e218, s15 i i0, s16 i i0]
    by_cases e : i = P 2 17
    · rw [if_pos e, if_pos e]
      exact ⟨hn, fun z => hW.r.2.2 n hn.1 hn.2 z, (hW.v.2 n hn.1 hn.2).2.1, (hW.v.2 n hn.1 hn.2).1, (hW.v.2 n hn.1 hn.2).2.2⟩
    · rw [if_neg e, if_neg e]; exact hk i i0 (by omega)
  · obtain ⟨hS, hT, hh, hF⟩ := hC.1
    apply k11_take_r
    refine hasChange_r hW hS (fun _ _ => ?_) (fun y => absurd ⟨hn, hc⟩ y)
    rw [if_neg (by decide), hS 2 (by decide) (by decide), if_pos hlt]
    apply k0_keepChange_r
    rw [hS 2 (by decide) (by decide), if_pos hlt, hS 4 (by decide) (by decide), hS 5 (by decide) (by decide), w32_id (show -2147483648 ≤ P 2 17 + 1 ∧ P 2 17 + 1 < 2147483648 by omega)]
    refine ⟨⟨k0, hlt⟩, ⟨hn.1, by omega⟩, ?_⟩
    have f1 : Fr (fun a i => a == 15 || a == 16 || a == 17 || (a == 2 && i == 17)) M (upI (upI (upI (upI M 15 (P 2 17) n) 16 (P 2 17) (P 4 n)) 17 (P 2 17) (P 5 n)) 2 17 (P 2 17 + 1)) := (((Fr.rf.up _ rfl).up _ rfl).up _ rfl).up _ rfl
    have s1 : Sm (pstk P n) (upI (upI (upI (upI M 15 (P 2 17) n) 16 (P 2 17) (P 4 n)) 17 (P 2 17) (P 5 n)) 2 17 (P 2 17 + 1)) := by
      intro a a1 a2
      show _ = (if a = 15 then fput (P 15) (P 2 17) n else if a = 16 then fput (P 16) (P 2 17) (P 4 n) else if a = 17 then fput (P 17) (P 2 17) (P 5 n) else if a = 2 then fput (P 2) 17 (P 2 17 + 1) else P a)
      by_cases e15 : a = 15
      · subst e15; rw [if_pos rfl, gI_upc _ _ _ (by decide), gI_upc _ _ _ (by decide), gI_upc _ _ _ (by decide), gI_fput, hS 15 (by decide) (by decide)]
      rw [if_neg e15]
      by_cases e16 : a = 16
      · subst e16; rw [if_pos rfl, gI_upc _ _ _ (by decide), gI_upc _ _ _ (by decide), gI_fput, gI_upc _ _ _ (by decide), hS 16 (by decide) (by decide)]
      rw [if_neg e16]
      by_cases e17 : a = 17
      · subst e17; rw [if_pos rfl, gI_upc _ _ _ (by decide), gI_fput, gI_upc _ _ _ (by decide), gI_upc _ _ _ (by decide), hS 17 (by decide) (by decide)]
      rw [if_neg e17]
      by_cases e2 : a = 2
      · subst e2; rw [if_pos rfl, gI_fput, gI_upc _ _ _ (by decide), gI_upc _ _ _ (by decide), gI_upc _ _ _ (by decide), hS 2 (by decide) (by decide)]
      rw [if_neg e2, gI_upc _ _ _ e2, gI_upc _ _ _ e17, gI_upc _ _ _ e16, gI_upc _ _ _ e15]
      exact hS a a1 a2
    generalize upI (upI (upI (upI M 15 (P 2 17) n) 16 (P 2 17) (P 4 n)) 17 (P 2 17) (P 5 n)) 2 17 (P 2 17 + 1) = M1 at *
    refine apply_r hWs s1 hn (by rw [hcs]; exact hc) (fun M2 f2 s2' => ?_)
    have g2 : gI M2 2 17 = P 2 17 + 1 := by rw [s2' 2 (by decide) (by decide)]; rfl
    rw [g2]
    have f12 : Fr (fun a _ => 2 ≤ a && a < 18) M M2 := (f1.mono (fun a i h => by simp at h ⊢; omega)).trans (f2.mono (fun a i h => by simp [pSet] at h ⊢; omega))
    have hnT := hT.2.1
    refine hq _ ?_ (CI.forget s2' ⟨by rw [f12.g rfl]; exact hT.1, hnT, fun t j t0 t1 j0 j1 => by rw [f12.g (by simp; omega)]; exact hT.2.2 t j t0 t1 j0 j1⟩ (by rw [f12.g rfl]; exact hh) ⟨by rw [f12.g rfl]; exact hF.1, fun y => absurd y (by decide), by rw [f12.g rfl]; exact hF.2.2.1, Or.inl rfl⟩)
    refine ((((f12.mono (fun a i h => ?_)).up _ rfl).up _ rfl).up _ rfl).up _ rfl
    simp [pC] at h ⊢; omega
  · obtain ⟨f0, hR0⟩ := th0 hR 0
    apply k12_take_r
    rw [hR.1.1.1, szw hW, hR.2.1, if_neg (by omega), if_pos (by omega), if_neg (by omega)]
    refine asks_r hW hR0.1.1 hR0.1.2.2.2 hn hc32 (fun y => absurd hc y) (fun _ _ M1 f1 hN1 => ?_)
    obtain ⟨f1', hR1⟩ := Rq hR0 f1 qp_ask
    obtain ⟨n1, ⟨n2, n3, n4⟩, -⟩ := hN1
    obtain ⟨p3, p4, ⟨p7, p7', p5⟩, -⟩ := hR1.1.1.2.2 n hn.1 hn.2
    rw [if_neg (by decide), hR1.2.1, w32_id (show -2147483648 ≤ P 2 17 + 1 ∧ P 2 17 + 1 < 2147483648 by omega)]
    refine ⟨⟨k0, hlt⟩, ⟨hn.1, by omega⟩, ⟨hn.1, by omega⟩, hq _ ((f0.trans f1').trans ((((((Fr.rf.up _ rfl).up _ rfl).up _ rfl).up _ rfl).up _ rfl).up _ rfl)) ?_⟩
    have f2 : Fr (fun a i => a == 174 || a == 175 || a == 176 || (a == 142 && i == 60)) M1 (upI (upI (upI (upI M1 174 (P 2 17) n) 175 (P 2 17) (gI M1 146 n)) 176 (P 2 17) (gI M1 153 n)) 142 60 (P 2 17 + 1)) := (((Fr.rf.up _ rfl).up _ rfl).up _ rfl).up _ rfl
    have t174 : ∀ i, 0 ≤ i → gI (upI (upI (upI (upI M1 174 (P 2 17) n) 175 (P 2 17) (gI M1 146 n)) 176 (P 2 17) (gI M1 153 n)) 142 60 (P 2 17 + 1)) 174 i = if i = P 2 17 then n else gI M1 174 i := fun i i0 => by
      rw [gI_ne _ _ _ _ (by decide), gI_ne _ _ _ _ (by decide), gI_ne _ _ _ _ (by decide), gI_up _ _ k0 i0]
    have t175 : ∀ i, 0 ≤ i → gI (upI (upI (upI (upI M1 174 (P 2 17) n) 175 (P 2 17) (gI M1 146 n)) 176 (P 2 17) (gI M1 153 n)) 142 60 (P 2 17 + 1)) 175 i = if i = P 2 17 then gI M1 146 n else gI M1 175 i := fun i i0 => by
      rw [gI_ne _ _ _ _ (by decide), gI_ne _ _ _ _ (by decide), gI_up _ _ k0 i0, gI_ne _ _ _ _ (by decide)]
    have t176 : ∀ i, 0 ≤ i → gI (upI (upI (upI (upI M1 174 (P 2 17) n) 175 (P 2 17) (gI M1 146 n)) 176 (P 2 17) (gI M1 153 n)) 142 60 (P 2 17 + 1)) 176 i = if i = P 2 17 then gI M1 153 n else gI M1 176 i := fun i i0 => by
      rw [gI_ne _ _ _ _ (by decide), gI_up _ _ k0 i0, gI_ne _ _ _ _ (by decide), gI_ne _ _ _ _ (by decide)]
    have t60 : gI (upI (upI (upI (upI M1 174 (P 2 17) n) 175 (P 2 17) (gI M1 146 n)) 176 (P 2 17) (gI M1 153 n)) 142 60 (P 2 17 + 1)) 142 60 = P 2 17 + 1 := gI_eq _ _ _ _
    generalize upI (upI (upI (upI M1 174 (P 2 17) n) 175 (P 2 17) (gI M1 146 n)) 176 (P 2 17) (gI M1 153 n)) 142 60 (P 2 17 + 1) = M2 at *
    obtain ⟨a1, ⟨b1, b2, b3, b4⟩, ⟨c1, c2, c3⟩, d1⟩ := hR1.1
    have rp2 : RP P M2 := f2.rp a1 (fun a i x y => by simp; omega)
    have rp2' : RP (pstk P n) M2 := rp2
    refine ⟨⟨rp_set (P := pstk P n) h60 rp2' hn n1 n2 n3 n4, ⟨?_, fun z => absurd z (by decide), ?_, b4⟩, ⟨?_, c2, ?_⟩, ?_⟩, ?_, ?_⟩
    · rw [gI_ne _ _ _ _ (by decide), gI_ne _ _ _ _ (by decide), f2.g rfl]; exact b1
    · rw [gI_ne _ _ _ _ (by decide), gI_ne _ _ _ _ (by decide), f2.g rfl]; exact b3
    · rw [gI_ne _ _ _ _ (by decide), gI_ne _ _ _ _ (by decide), f2.g rfl]; exact c1
    · intro t j t0 t1 j0 j1; rw [gI_ne _ _ _ _ (by decide), gI_ne _ _ _ _ (by decide), f2.g rfl]; exact c3 t j t0 t1 j0 j1
    · rw [gI_ne _ _ _ _ (by decide), gI_ne _ _ _ _ (by decide), f2.g rfl]; exact d1
    · rw [gI_ne _ _ _ _ (by decide), gI_ne _ _ _ _ (by decide), t60]; rfl
    · intro i i0 i1
      rw [s2] at i1
      rw [gI_ne _ _ _ _ (by decide), gI_ne _ _ _ _ (by decide), gI_ne _ _ _ _ (by decide), gI_ne _ _ _ _ (by decide), gI_ne _ _ _ _ (by decide), gI_ne _ _ _ _ (by decide), t174 i i0, t175 i i0, t176 i i0, e3, s15 i i0, s16 i i0, s17 i i0]
      by_cases e : i = P 2 17
      · rw [if_pos e, if_pos e, if_pos e, if_pos e, if_pos e, if_pos e]
        exact ⟨rfl, p4, p7, p7', p5⟩
      · rw [if_neg e, if_neg e, if_neg e, if_neg e, if_neg e, if_neg e]
        exact hR1.2.2 i i0 (by omega)
theorem op_undo {P : Pg} {T : Ts} {nT : Int} (hW : WF P) (hK : WK P) : ∃ P', WF P' ∧ WK P' ∧ SameP P P' T nT k11_undo k12_undo := by
  have h60 := hW.le
  have hK0 := hK
  obtain ⟨⟨k0, k20⟩, hk⟩ := hK
  by_cases hz : P 2 17 = 0
  · refine ⟨P, hW, hK0, -1, fun M K hC hq => ?_, fun M K hR hq => ?_⟩
    · apply k11_undo_r
      rw [hC.1.1 2 (by decide) (by decide), if_pos hz]; exact hq M Fr.rf hC
    · apply k12_undo_r
      rw [hR.2.1, if_pos hz]; exact hq _ (th0 hR 0).1 (th0 hR 0).2
  obtain ⟨d, hd⟩ : ∃ d, d = P 2 17 - 1 := ⟨_, rfl⟩
  obtain ⟨hn, g5, g5', g7, g4⟩ := hk d (by omega) (by omega)
  have hWd : WF (pdrp P) := hW.alike ⟨rfl, rfl, rfl⟩ (fun a a2 _ _ _ => by
    show (if a = 2 then fput (P 2) 17 (P 2 17 - 1) else P a) = P a
    rw [if_neg a2])
  have hW' : WF (pset (pdrp P) (P 15 d) (P 16 d) (P 17 d)) := hWd.set hn g5 g5' g7 g4
  have s2 : (pset (pdrp P) (P 15 d) (P 16 d) (P 17 d)) 2 17 = P 2 17 - 1 := rfl
  have wd : w32 (P 2 17 - 1) = d := by rw [w32_id (by omega), hd]
  refine ⟨pset (pdrp P) (P 15 d) (P 16 d) (P 17 d), hW', ⟨⟨by rw [s2]; omega, by rw [s2]; omega⟩, fun i i0 i1 => ?_⟩, d, fun M K hC hq => ?_, fun M K hR hq => ?_⟩
  · rw [s2] at i1
    exact hk i i0 (by omega)
  · obtain ⟨hS, hT, hh, hF⟩ := hC.1
    have hnT := hT.2.1
    apply k11_undo_r
    rw [hS 2 (by decide) (by decide), if_neg hz]
    apply k0_dropLatest_r
    rw [hS 2 (by decide) (by decide), if_neg (by omega), wd, hS 15 (by decide) (by decide), hS 16 (by decide) (by decide), hS 17 (by decide) (by decide)]
    refine ⟨⟨by omega, by omega⟩, ⟨hn.1, by omega⟩, ?_⟩
    have s1 : Sm (pdrp P) (upI M 2 17 d) := by
      intro a a1 a2
      show _ = (if a = 2 then fput (P 2) 17 (P 2 17 - 1) else P a)
      by_cases e2 : a = 2
      · subst e2; rw [if_pos rfl, gI_fput, hS 2 (by decide) (by decide), hd]
      rw [if_neg e2, gI_upc _ _ _ e2]; exact hS a a1 a2
    have s2' := sm_45 (n := P 15 d) (v := P 16 d) (m := P 17 d) s1
    have g2 : gI (upI (upI (upI M 2 17 d) 4 (P 15 d) (P 16 d)) 5 (P 15 d) (P 17 d)) 2 17 = d := by
      rw [gI_ne _ _ _ _ (by decide), gI_ne _ _ _ _ (by decide), gI_eq]
    rw [g2]
    have f12 : Fr (fun a _ => 2 ≤ a && a < 18) M (upI (upI (upI M 2 17 d) 4 (P 15 d) (P 16 d)) 5 (P 15 d) (P 17 d)) := ((Fr.rf.up _ rfl).up _ rfl).up _ rfl
    generalize upI (upI (upI M 2 17 d) 4 (P 15 d) (P 16 d)) 5 (P 15 d) (P 17 d) = M2 at *
    refine hq _ ?_ (CI.forget s2' ⟨by rw [f12.g rfl]; exact hT.1, hnT, fun t j t0 t1 j0 j1 => by rw [f12.g (by simp; omega)]; exact hT.2.2 t j t0 t1 j0 j1⟩ (by rw [f12.g rfl]; exact hh) ⟨by rw [f12.g rfl]; exact hF.1, fun y => absurd y (by decide), by rw [f12.g rfl]; exact hF.2.2.1, Or.inl rfl⟩)
    refine ((((f12.mono (fun a i h => ?_)).up _ rfl).up _ rfl).up _ rfl).up _ rfl
    simp [pC] at h ⊢; omega
  · obtain ⟨h60', hs⟩ := hR.2
    obtain ⟨t1, t2, t3, t4, t5⟩ := hs d (by omega) (by omega)
    apply k12_undo_r
    rw [h60', if_neg hz, wd, t1]
    refine ⟨⟨by omega, by omega⟩, ⟨hn.1, by omega⟩, ⟨hn.1, by omega⟩, hq _ ((((Fr.rf.up _ rfl).up _ rfl).up _ rfl).up _ rfl) ?_⟩
    have f2 : Fr (fun a i => a == 142 && (i == 0 || i == 60)) M (upI (upI M 142 0 0) 142 60 d) := (Fr.rf.up _ rfl).up _ rfl
    have t60 : gI (upI (upI M 142 0 0) 142 60 d) 142 60 = d := gI_eq _ _ _ _
    generalize upI (upI M 142 0 0) 142 60 d = M2 at *
    obtain ⟨a1, ⟨b1, b2, b3, b4⟩, ⟨c1, c2, c3⟩, d1⟩ := hR.1
    have rp2 : RP P M2 := f2.rp a1 (fun a i x y => by simp; omega)
    have rp2' : RP (pdrp P) M2 := rp2
    refine ⟨⟨rp_set (P := pdrp P) h60 rp2' hn t2 t3 t4 t5, ⟨?_, fun z => absurd z (by decide), ?_, b4⟩, ⟨?_, c2, ?_⟩, ?_⟩, ?_, ?_⟩
    · rw [gI_ne _ _ _ _ (by decide), gI_ne _ _ _ _ (by decide), f2.g rfl]; exact b1
    · rw [gI_ne _ _ _ _ (by decide), gI_ne _ _ _ _ (by decide), f2.g rfl]; exact b3
    · rw [gI_ne _ _ _ _ (by decide), gI_ne _ _ _ _ (by decide), f2.g rfl]; exact c1
    · intro t j t0 t1 j0 j1; rw [gI_ne _ _ _ _ (by decide), gI_ne _ _ _ _ (by decide), f2.g rfl]; exact c3 t j t0 t1 j0 j1
    · rw [gI_ne _ _ _ _ (by decide), gI_ne _ _ _ _ (by decide), f2.g rfl]; exact d1
    · rw [gI_ne _ _ _ _ (by decide), gI_ne _ _ _ _ (by decide), t60, s2, hd]
    · intro i i0 i1
      rw [s2] at i1
      rw [gI_ne _ _ _ _ (by decide), gI_ne _ _ _ _ (by decide), gI_ne _ _ _ _ (by decide), gI_ne _ _ _ _ (by decide), gI_ne _ _ _ _ (by decide), gI_ne _ _ _ _ (by decide), f2.g rfl, f2.g rfl, f2.g rfl]
      exact hs i i0 (by omega)

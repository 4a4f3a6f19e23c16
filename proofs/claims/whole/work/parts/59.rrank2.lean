-- needs 30 31 32 33a 33b 33c 33d 33e 33f 33g 33h 33i 33j 40 41 42 43 44 45 46 50 51 52 53 54 56 57 58
/-! the reference's scores and ranks -/
theorem scores_r {M : pm_M} {K : pm_M → Prop} {r s f p q o : Int} (hr : 0 ≤ r ∧ r < 3) (hs : 0 ≤ s ∧ s < 60) (hf : gI M 159 s = f) (hp : gI M 160 s = p) (hq' : gI M 142 40 = q) (ho : gI M 142 41 = o) (hn : 0 ≤ f ∧ f ≤ q ∧ 0 ≤ p ∧ p ≤ o ∧ q + o ≤ 16)
    (hq : ∀ M', Fr qSc M M' → gI M' 142 42 = abv (sov r f p q o) (sun r f p q o) → gI M' 142 43 = blw (sov r f p q o) (sun r f p q o) → K M') : k12_scores r s M K := by
  obtain ⟨n1, n2, n3, n4, n5⟩ := hn
  have b1 := mulb n1 (by omega) n1 (by omega)
  have b2 := mulb n1 (by omega) (show 0 ≤ o by omega) (by omega)
  have b3 := mulb n3 (by omega) (show 0 ≤ q by omega) (by omega)
  have b4 := mulb (show 0 ≤ q by omega) (by omega) (show 0 ≤ f + p by omega) (by omega)
  have w1 : w32 (f * f) = f * f := w32_id (by omega)
  have w2 : w32 (f * o) = f * o := w32_id (by omega)
  have w3 : w32 (p * q) = p * q := w32_id (by omega)
  have w4 : w32 (f * o + p * q) = f * o + p * q := w32_id (by omega)
  have w5 : w32 (f + p) = f + p := w32_id (by omega)
  have w6 : w32 (q * (f + p)) = q * (f + p) := w32_id (by omega)
  have w7 : w32 (p + q) = p + q := w32_id (by omega)
  have w8 : w32 (p + q - f) = p + q - f := w32_id (by omega)
  -- above and below known: in lowest terms
  have fin : ∀ M1 x y, Fr qSc M M1 → gI M1 142 42 = x → gI M1 142 43 = y → 0 < x → x < 100000 → 0 ≤ y → y < 100000 → x = sov r f p q o → y = sun r f p q o → k12_scores_178 x y M1 K := by
    intro M1 x y f1 e1 e2 x0 x1 y0 y1 ex ey
    refine scores178_r _ x y (Nat.le_refl _) (by omega) y0 (Or.inl x0) ?_
    have hg := G_pos (a := x) (b := y) (Or.inl x0)
    have t1 := td_nat (show 0 ≤ x by omega) hg
    have t2 := td_nat y0 hg
    rw [e1, e2, t1.1, t2.1, w32_id (by omega), w32_id (by omega)]
    refine hq _ ((f1.up _ rfl).up _ rfl) ?_ ?_
    · rw [gI_nf _ _ (by decide), gI_eq, ← ex, ← ey]; unfold abv; rw [if_neg (by omega)]
    · rw [gI_eq, ← ex, ← ey]; unfold blw; rw [if_neg (by omega)]
  have none : ∀ M1, f = 0 → Fr qSc M M1 → gI M1 142 42 = 0 → gI M1 142 43 = 1 → k12_scores_178 0 1 M1 K := by
    intro M1 f0 f1 e1 e2
    have es : sov r f p q o = 0 := by
      unfold sov
      rw [f0]
      split
      · split
        · rfl
        · exact Int.zero_mul _
      · split
        · rfl
        · rw [if_neg (by omega)]; rfl
    refine scores178_r _ 0 1 (Nat.le_refl _) (by decide) (by decide) (Or.inr (by decide)) ?_
    rw [e1, e2]
    have g1 : G 0 1 = 1 := by decide
    rw [g1]
    refine hq _ ((f1.up _ rfl).up _ rfl) ?_ ?_
    · rw [gI_nf _ _ (by decide), gI_eq, es]; unfold abv; rw [if_pos rfl]; decide
    · rw [gI_eq, es]; unfold blw; rw [if_pos rfl]; decide
  have rest : ∀ M1, ¬ (0 < f ∧ r = 0) → Fr qSc M M1 → gI M1 142 40 = q → gI M1 142 42 = 0 → gI M1 142 43 = 1 → k12_scores_86 r f p M1 K := by
    intro M1 hno f1 e40 e42 e43
    apply k12_scores_86_r
    rw [e40, e42, e43]
    by_cases z : f ≤ 0
    · rw [if_pos z]; exact none M1 (by omega) f1 e42 e43
    rw [if_neg z, w1, w5, w6, w7, w8]
    have fpos : 0 < f * f := Int.mul_pos (by omega) (by omega)
    by_cases r1 : r = 1
    · rw [if_pos r1]
      refine fin _ _ _ ((f1.up _ rfl).up _ rfl) (by rw [gI_nf _ _ (by decide), gI_eq]) (by rw [gI_eq]) fpos (by omega) b4.1 (by omega) ?_ ?_
      · unfold sov; rw [if_neg (by omega), if_pos r1]
      · unfold sun; rw [if_neg (by omega), if_pos r1]
    · rw [if_neg r1]
      by_cases m0 : p + q - f = 0
      · rw [if_pos m0]
        refine fin _ _ _ ((f1.up _ rfl).up _ rfl) (by rw [gI_nf _ _ (by decide), gI_eq]) (by rw [gI_eq]) (by decide) (by decide) (by decide) (by decide) ?_ ?_
        · unfold sov; rw [if_neg (by omega), if_neg r1, if_pos ⟨by omega, m0⟩]
        · unfold sun; rw [if_neg (by omega), if_neg r1, if_pos m0]
      · rw [if_neg m0]
        refine fin _ _ _ ((f1.up _ rfl).up _ rfl) (by rw [gI_nf _ _ (by decide), gI_eq]) (by rw [gI_eq]) fpos (by omega) (by omega) (by omega) ?_ ?_
        · unfold sov; rw [if_neg (by omega), if_neg r1, if_neg (fun z => m0 z.2)]
        · unfold sun; rw [if_neg (by omega), if_neg r1, if_neg m0]
  apply k12_scores_r
  refine ⟨hs, ?_⟩
  rw [hf, hp, hq', ho, w2, w3, w4]
  have f0 : Fr qSc M (upI (upI M 142 42 0) 142 43 1) := (Fr.rf.up _ rfl).up _ rfl
  have e40 : gI (upI (upI M 142 42 0) 142 43 1) 142 40 = q := by rw [gI_nf _ _ (by decide), gI_nf _ _ (by decide)]; exact hq'
  have e42 : gI (upI (upI M 142 42 0) 142 43 1) 142 42 = 0 := by rw [gI_nf _ _ (by decide), gI_eq]
  have e43 : gI (upI (upI M 142 42 0) 142 43 1) 142 43 = 1 := gI_eq _ _ _ _
  by_cases z : f ≤ 0
  · rw [if_pos z]; exact rest _ (by omega) f0 e40 e42 e43
  rw [if_neg z]
  by_cases r0 : r = 0
  · rw [if_pos r0]
    by_cases o0 : o = 0
    · rw [if_pos o0]
      have es : sov r f p q o = f := by unfold sov; rw [if_pos r0, if_pos o0]
      have eu : sun r f p q o = f := by unfold sun; rw [if_pos r0, if_pos o0]
      refine scores178_r _ 1 1 (Nat.le_refl _) (by decide) (by decide) (Or.inl (by decide)) ?_
      rw [gI_nf _ _ (by decide), gI_eq, gI_eq]
      have g1 : G 1 1 = 1 := by decide
      have gf : G f f = f := by unfold G; rw [Nat.gcd_self]; omega
      rw [g1]
      refine hq _ (((f0.up _ rfl).up _ rfl).up _ rfl |>.up _ rfl) ?_ ?_
      · rw [gI_nf _ _ (by decide), gI_eq, es, eu]; unfold abv; rw [if_neg (by omega), gf, Int.ediv_self (by omega)]; decide
      · rw [gI_eq, es, eu]; unfold blw; rw [if_neg (by omega), gf, Int.ediv_self (by omega)]; decide
    · rw [if_neg o0]
      have fo : 0 < f * o := Int.mul_pos (by omega) (by omega)
      refine fin _ _ _ ((f0.up _ rfl).up _ rfl) (by rw [gI_nf _ _ (by decide), gI_eq]) (by rw [gI_eq]) fo (by omega) (by omega) (by omega) ?_ ?_
      · unfold sov; rw [if_pos r0, if_neg o0]
      · unfold sun; rw [if_pos r0, if_neg o0]
  · rw [if_neg r0]; exact rest _ (fun y => r0 y.2) f0 e40 e42 e43
theorem SPk.fr {P : Pg} {F : Fo} {T : Ts} {t : Int} {M M' : pm_M} {p : Nat → Nat → Bool} (h : SPk P F T t M) (f : Fr p M M') (h1 : p 142 40 = false ∧ p 142 41 = false) (h2 : ∀ i, p 159 i = false) (h3 : ∀ i, p 160 i = false) : SPk P F T t M' := by
  unfold SPk
  rw [f.g h1.1, f.g h1.2, f.c h2, f.c h3]; exact h
theorem sscores_r {P : Pg} {F : Fo} {T : Ts} {nT : Int} (hW : WF P) (hnT : 0 ≤ nT ∧ nT ≤ 16) {M : pm_M} {K : pm_M → Prop} {r s : Int} (hr : 0 ≤ r ∧ r < 3) (hs : 0 ≤ s ∧ s < P 2 15) (h : SPk P F T nT M)
    (hq : ∀ M', Fr qSc M M' → gI M' 142 42 = sA P F T nT r s → gI M' 142 43 = sB P F T nT r s → K M') : k12_scores r s M K := by
  have h60 := hW.le
  exact scores_r hr ⟨hs.1, by omega⟩ (h.2.2 s hs.1 hs.2).1 (h.2.2 s hs.1 hs.2).2 h.1 h.2.1 (nums hnT s) hq
theorem isAhead_r {P : Pg} {F : Fo} {T : Ts} {nT : Int} (hW : WF P) (hnT : 0 ≤ nT ∧ nT ≤ 16) {M : pm_M} {K : Int → pm_M → Prop} {r x y : Int} (hr : 0 ≤ r ∧ r < 3) (hx : 0 ≤ x ∧ x < P 2 15) (hy : 0 ≤ y ∧ y < P 2 15) (h : SPk P F T nT M)
    (h1 : mrr P F T nT r x y = true → ∀ M', Fr qSc M M' → K 1 M') (h0 : ¬ mrr P F T nT r x y = true → ∀ M', Fr qSc M M' → K 0 M') : k12_isAhead r x y M K := by
  apply k12_isAhead_r
  refine sscores_r hW hnT hr hx h (fun M1 f1 a1 b1 => ?_)
  refine sscores_r hW hnT hr hy (h.fr f1 ⟨rfl, rfl⟩ (fun _ => rfl) (fun _ => rfl)) (fun M3 f3 a3 b3 => ?_)
  rw [a1, b1, a3, b3]
  by_cases z : w32 (sA P F T nT r x * sB P F T nT r y) ≤ w32 (sA P F T nT r y * sB P F T nT r x)
  · rw [if_pos z]; exact h0 (mrr_f z) _ (f1.trans f3)
  · rw [if_neg z]; exact h1 (mrr_t z) _ (f1.trans f3)
def qRank (a i : Nat) : Bool := qSpec a i || a == 161 || qSc a i
theorem laysRanked_r {P : Pg} {F : Fo} {T : Ts} {nT : Int} (hW : WF P) (hp0 : 0 < P 2 15) {M : pm_M} {K : Int → pm_M → Prop} {r : Int} (hr : 0 ≤ r ∧ r < 3) (hB : RB P F T nT M)
    (hq : ∀ M', Fr qRank M M' → (∀ i, 0 ≤ i → i < P 2 16 → gI M' 161 i = rk P F T nT r i) → K (P 2 16) M') : k12_laysRanked r M K := by
  obtain ⟨hx1, -, ⟨m0, m1, hrk⟩, hst, -⟩ := hW.x
  have h60 := hW.le
  have hnT := hB.2.2.1.2.1
  apply k12_laysRanked_r
  refine laysSpectra_r hW hp0 hB (fun M1 f1 hsp => ?_)
  have keep : ∀ M2, Fr qRank M1 M2 → Fr (fun a i => a == 161 || qSc a i) M1 M2 → RB P F T nT M2 ∧ SPk P F T nT M2 := by
    intro M2 _ f
    refine ⟨(hB.fr f1 (fun a i a1 a2 => by simp [qSpec, qRun]; omega) ⟨rfl, rfl, rfl, rfl, rfl⟩).fr f (fun a i a1 a2 => by simp [qSc]; omega) ⟨rfl, rfl, rfl, rfl, rfl⟩, hsp.fr f ⟨rfl, rfl⟩ (fun _ => rfl) (fun _ => rfl)⟩
  have toR : ∀ a i, (fun a i => a == 161 || qSc a i) a i = true → qRank a i = true := by
    intro a i h
    simp only [qRank, Bool.or_eq_true] at h ⊢
    rcases h with h | h
    · exact Or.inl (Or.inr h)
    · exact Or.inr h
  have f1' : Fr qRank M M1 := f1.mono (fun a i h => by simp only [qRank, h, Bool.true_or])
  have nodes : ∀ (d : Nat) (k n : Int) (M2 : pm_M), k + d = P 2 15 → 0 ≤ k → 0 ≤ n → n ≤ P 2 16 → (∀ s, isSt P s → (s < k ↔ P 23 s < n)) → Fr (fun a i => a == 161 || qSc a i) M1 M2 → (∀ j, 0 ≤ j → j < n → gI M2 161 j = ord (mrr P F T nT r) (P 14) n.toNat j) → k12_laysRanked_8 r n k M2 K := by
    intro d
    induction d with
    | zero =>
      intro k n M2 hd k0 n0 n1 hc f2 hj
      obtain ⟨b2, -⟩ := keep M2 (f2.mono toR) f2
      apply k12_laysRanked_8_r
      rw [b2.1.1, if_neg (by omega)]
      have hn : n = P 2 16 := by
        by_cases e : n < P 2 16
        · have h1 := hst n n0 e
          have h2 := (hc _ h1.1).mp (by have := h1.1.2.1; omega)
          rw [h1.2] at h2; omega
        · omega
      subst hn
      exact hq M2 (f1'.trans (f2.mono toR)) hj
    | succ d ih =>
      intro k n M2 hd k0 n0 n1 hc f2 hj
      obtain ⟨b2, sp2⟩ := keep M2 (f2.mono toR) f2
      apply k12_laysRanked_8_r
      have wk : w32 (k + 1) = k + 1 := w32_id (by omega)
      have wm : w32 (P 2 15 - 1) = P 2 15 - 1 := w32_id (by omega)
      rw [b2.1.1, if_pos (by omega), if_neg (by omega), wm, if_pos (by omega), wk, (b2.1.2.2 k k0 (by omega)).1]
      refine ⟨⟨k0, by omega⟩, ?_⟩
      by_cases h3 : P 3 k ≤ 3
      case neg =>
        rw [if_neg h3]
        refine ih _ _ _ (by omega) (by omega) n0 n1 (fun s hs => ?_) f2 hj
        rw [← hc s hs]
        have : s ≠ k := fun e => by subst e; exact h3 hs.2.2
        omega
      rw [if_pos h3]
      have hk : isSt P k := ⟨k0, by omega, h3⟩
      -- its rank is n
      have hrn : P 23 k = n := by
        have hk1 := hrk k hk
        have hk2 := (hW.t.1 k hk).2.2.2.1
        have g1 : ¬ P 23 k < n := fun z => by have := (hc k hk).mpr z; omega
        by_cases e : P 23 k = n
        · exact e
        · have h1 := hst n n0 (by omega)
          have g2 : ¬ P 14 n < k := fun z => by have := (hc _ h1.1).mp z; rw [h1.2] at this; omega
          have g3 : P 14 n ≠ k := fun z => by rw [z] at h1; omega
          have := (hW.t.1 k hk).2.2.2.2.2 _ h1.1 (by omega)
          rw [h1.2] at this; omega
      have h14 : P 14 n = k := by rw [← hrn]; exact (hrk k hk).2
      have n2 : n < P 2 16 := by rw [← hrn]; exact (hrk k hk).1
      have hc' : ∀ s, isSt P s → (s < k + 1 ↔ P 23 s < n + 1) := by
        intro s hs
        by_cases e : s = k
        · subst e; omega
        · have := hc s hs
          have e2 : P 23 s ≠ n := fun z => by
            have := (hrk s hs).2
            rw [z, h14] at this; exact e this.symm
          omega
      have done : ∀ (i : Nat) (M3 : pm_M), (i : Int) ≤ n → Fr (fun a i => a == 161 || qSc a i) M1 M3 → (∀ j, 0 ≤ j → j < (i : Int) → gI M3 161 j = ord (mrr P F T nT r) (P 14) n.toNat j) → (∀ j, (i : Int) < j → j ≤ n → gI M3 161 j = ord (mrr P F T nT r) (P 14) n.toNat (j - 1)) → plc (mrr P F T nT r) (ord (mrr P F T nT r) (P 14) n.toNat) k n.toNat = i → k12_laysRanked_8 r (n + 1) (k + 1) (upI M3 161 (i : Int) k) K := by
        intro i M3 hi f3 q1 q2 q3
        refine ih _ _ _ (by omega) (by omega) (by omega) (by omega) hc' (f3.up _ rfl) (fun j j0 j1 => ?_)
        have en : ((n.toNat : Nat) : Int) = n := Int.toNat_of_nonneg n0
        rw [show (n + 1).toNat = n.toNat + 1 by omega]
        refine ord_step (g := fun j => gI (upI M3 161 (i : Int) k) 161 j) (k := i) (by omega) (by rw [en, h14]; exact q3) ?_ ?_ ?_ j j0 (by omega)
        · intro u u0 u1
          show gI (upI M3 161 (i : Int) k) 161 u = _
          rw [gI_up _ _ (by omega) u0, if_neg (by omega)]; exact q1 u u0 u1
        · intro u u0 u1
          show gI (upI M3 161 (i : Int) k) 161 u = _
          rw [gI_up _ _ (by omega) (by omega), if_neg (by omega)]; exact q2 u u0 (by omega)
        · show gI (upI M3 161 (i : Int) k) 161 (i : Int) = _
          rw [gI_eq, en, h14]
      have wn : w32 (n + 1) = n + 1 := w32_id (by omega)
      have inner : ∀ (i : Nat) (M3 : pm_M), (i : Int) ≤ n → Fr (fun a i => a == 161 || qSc a i) M1 M3 → (∀ j, 0 ≤ j → j < (i : Int) → gI M3 161 j = ord (mrr P F T nT r) (P 14) n.toNat j) → (∀ j, (i : Int) < j → j ≤ n → gI M3 161 j = ord (mrr P F T nT r) (P 14) n.toNat (j - 1)) → plc (mrr P F T nT r) (ord (mrr P F T nT r) (P 14) n.toNat) k n.toNat = plc (mrr P F T nT r) (ord (mrr P F T nT r) (P 14) n.toNat) k i → k12_laysRanked_29 r n k (i : Int) M3 K := by
        intro i
        induction i with
        | zero =>
          intro M3 hi f3 q1 q2 q3
          apply k12_laysRanked_29_r
          rw [if_pos (by decide), wn, wk]
          exact ⟨by decide, done 0 M3 hi f3 q1 q2 q3⟩
        | succ i ihi =>
          intro M3 hi f3 q1 q2 q3
          obtain ⟨-, sp3⟩ := keep M3 (f3.mono toR) f3
          apply k12_laysRanked_29_r
          have w1 : w32 (((i + 1 : Nat) : Int) - 1) = (i : Int) := by rw [w32_id (by omega)]; omega
          have w2 : w32 (((i + 1 : Nat) : Int) + (-1)) = (i : Int) := by rw [w32_id (by omega)]; omega
          rw [if_neg (by omega), wn, wk, w1, w2]
          refine ⟨⟨by omega, by omega⟩, ?_⟩
          rw [q1 i (by omega) (by omega)]
          obtain ⟨i', i0', i1', ey⟩ := ord_mem (mr := mrr P F T nT r) (st := P 14) n.toNat (i : Int) (by omega) (by omega)
          have hy : isSt P (ord (mrr P F T nT r) (P 14) n.toNat (i : Int)) := by rw [ey]; exact (hst i' i0' (by omega)).1
          have hp : plc (mrr P F T nT r) (ord (mrr P F T nT r) (P 14) n.toNat) k (i + 1) = if mrr P F T nT r k (ord (mrr P F T nT r) (P 14) n.toNat (i : Int)) = true then plc (mrr P F T nT r) (ord (mrr P F T nT r) (P 14) n.toNat) k i else i + 1 := rfl
          refine isAhead_r hW hnT hr ⟨k0, by omega⟩ ⟨hy.1, hy.2.1⟩ sp3 ?_ ?_
          · intro hm M4 f4
            rw [if_neg (by decide)]
            rw [if_pos hm] at hp
            have f14 : Fr (fun a i => a == 161 || qSc a i) M1 M4 := f3.trans (f4.mono (fun a i h => by simp only [h, Bool.or_true]))
            have o4 : ∀ j, gI M4 161 j = gI M3 161 j := fun j => f4.g rfl
            refine ⟨⟨by omega, by omega⟩, ?_⟩
            rw [o4, q1 i (by omega) (by omega)]
            refine ihi _ (by omega) (f14.up _ rfl) ?_ ?_ (q3.trans hp)
            · intro j j0 j1; rw [gI_up _ _ (by omega) j0, if_neg (by omega), o4]; exact q1 j j0 (by omega)
            · intro j j0 j1
              rw [gI_up _ _ (by omega) (by omega)]
              by_cases e : j = ((i + 1 : Nat) : Int)
              · rw [if_pos e, e]; congr 1; omega
              · rw [if_neg e, o4]; exact q2 j (by omega) j1
          · intro hm M4 f4
            rw [if_pos rfl]
            rw [if_neg hm] at hp
            have f14 : Fr (fun a i => a == 161 || qSc a i) M1 M4 := f3.trans (f4.mono (fun a i h => by simp only [h, Bool.or_true]))
            have o4 : ∀ j, gI M4 161 j = gI M3 161 j := fun j => f4.g rfl
            exact ⟨⟨by omega, by omega⟩, done (i + 1) M4 hi f14 (fun j j0 j1 => by rw [o4]; exact q1 j j0 j1) (fun j j0 j1 => by rw [o4]; exact q2 j j0 j1) (q3.trans hp)⟩
      have h0 := inner n.toNat M2 (by omega) f2 (fun j j0 j1 => hj j j0 (by omega)) (fun j j0 j1 => by omega) rfl
      rw [Int.toNat_of_nonneg n0] at h0
      exact h0
  refine nodes (P 2 15).toNat 0 0 M1 (by omega) (by decide) (by decide) m0 (fun s hs => ?_) Fr.rf (fun j j0 j1 => by omega)
  have := (hW.t.1 s hs).2.2.2.1
  have := hs.1
  omega

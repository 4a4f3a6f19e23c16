-- needs 30 31 32 33a 33b 33c 33d 33e 33f 33g 33h 33i 33j 40 41 42 43 44 45 46 50 51 52 53 54 56 57
/-! the reference's spectra, scores and ranks -/
def qSpec (a i : Nat) : Bool := qRun a i || a == 159 || a == 160 || (a == 142 && (i == 40 || i == 41))
/-- what a reference's cells hold that asking leaves as it was -/
def RB (P : Pg) (F : Fo) (T : Ts) (nT : Int) (M : pm_M) : Prop := RP P M ∧ FmR F M ∧ RT T nT M ∧ gI M 142 22 = P 2 18
theorem RB.fr {P : Pg} {F : Fo} {T : Ts} {nT : Int} {M M' : pm_M} {p : Nat → Nat → Bool} (h : RB P F T nT M) (f : Fr p M M') (h1 : ∀ a i, 144 ≤ a → a < 155 → p a i = false) (h2 : p 142 22 = false ∧ p 142 24 = false ∧ p 142 35 = false ∧ p 142 36 = false ∧ p 142 37 = false) : RB P F T nT M' := by
  obtain ⟨a1, ⟨b1, b2, b3, b4⟩, ⟨c1, c2, c3⟩, d1⟩ := h
  refine ⟨f.rp a1 (fun a i x y => h1 a i x (by omega)), ⟨?_, ?_, ?_, b4⟩, ⟨?_, c2, ?_⟩, ?_⟩
  · rw [f.g h2.2.2.2.1]; exact b1
  · rw [f.g h2.2.2.2.2]; exact b2
  · rw [f.g h2.2.2.1]; exact b3
  · rw [f.g h2.2.1]; exact c1
  · intro t j t0 t1 j0 j1; rw [f.g (h1 154 _ (by decide) (by decide))]; exact c3 t j t0 t1 j0 j1
  · rw [f.g h2.1]; exact d1
/-- what the reference knows of the spectra, up to a test -/
def SPk (P : Pg) (F : Fo) (T : Ts) (t : Int) (M : pm_M) : Prop := gI M 142 40 = cn (nfb P F T) t.toNat ∧ gI M 142 41 = cn (psB P F T 0) t.toNat ∧ ∀ k, 0 ≤ k → k < P 2 15 → gI M 159 k = cn (dB P F T k 0) t.toNat ∧ gI M 160 k = cn (dB P F T k 1) t.toNat
theorem laysSpectra_r {P : Pg} {F : Fo} {T : Ts} {nT : Int} (hW : WF P) (hp0 : 0 < P 2 15) {M : pm_M} {K : pm_M → Prop} (hB : RB P F T nT M)
    (hq : ∀ M', Fr qSpec M M' → SPk P F T nT M' → K M') : k12_laysSpectra M K := by
  have h60 := hW.le
  have hnT := hB.2.2.1.2.1
  have keep : ∀ M2, Fr qSpec M M2 → RB P F T nT M2 := fun M2 f => hB.fr f (fun a i a1 a2 => by simp [qSpec, qRun]; omega) ⟨rfl, rfl, rfl, rfl, rfl⟩
  have tests : ∀ M1, Fr qSpec M M1 → SPk P F T 0 M1 → k12_laysSpectra_40 0 M1 K := by
    intro M1 f1 h1
    refine upto (n := nT) (I := fun t M2 => Fr qSpec M M2 ∧ SPk P F T t M2) (Q := fun t M2 => k12_laysSpectra_40 t M2 K) ?_ ?_ 0 M1 (by decide) (by omega) ⟨f1, h1⟩
    · intro M2 ⟨f2, h2⟩
      apply k12_laysSpectra_40_r
      rw [(keep M2 f2).2.2.1.1, if_neg (by omega)]
      exact hq M2 f2 h2
    · intro t M2 t0 t1 ⟨f2, h2⟩ ih
      obtain ⟨p2, m2, r2, -⟩ := keep M2 f2
      have w5 : w32 (w32 (5 * t) + 4) = 5 * t + 4 := by rw [w32_id (show -2147483648 ≤ 5 * t ∧ 5 * t < 2147483648 by omega), w32_id (by omega)]
      have wt : w32 (t + 1) = t + 1 := w32_id (by omega)
      apply k12_laysSpectra_40_r
      rw [r2.1, if_pos t1, w5, wt]
      refine ⟨⟨by omega, by omega⟩, ?_⟩
      rw [r2.2.2 t 4 t0 t1 (by decide) (by decide)]
      obtain ⟨q40, q41, qk⟩ := h2
      by_cases h4 : T t 4 = 1
      · rw [if_pos h4]
        have n1 : nfb P F T t = false := by unfold nfb hdB; rw [if_pos h4]; simp
        have n2 : psB P F T 0 t = false := by unfold psB hdB; rw [if_pos h4]; simp
        have n3 : ∀ k b, dB P F T k b t = false := fun k b => by unfold dB hdB; rw [if_pos h4]; simp
        refine ih M2 ⟨f2, ?_, ?_, ?_⟩
        · rw [cn_no t0 n1]; exact q40
        · rw [cn_no t0 n2]; exact q41
        · intro k k0 k1; rw [cn_no t0 (n3 k 0), cn_no t0 (n3 k 1)]; exact qk k k0 k1
      rw [if_neg h4]
      refine rpassesT_r hW.r hW.s hW.t hp0 t0 t1 p2 m2 r2 (fun M4 hQ hR => ?_)
      obtain ⟨ret, hR⟩ := hR
      have f24 := hQ.fr
      have f4 : Fr qSpec M M4 := f2.trans (f24.mono (fun a i h => by simp only [qSpec, h, Bool.true_or]))
      have c157 := hR.2.2.2.2.2.2.2.1
      have l1 := cn_le (nfb P F T) t.toNat
      have l2 := cn_le (psB P F T 0) t.toNat
      have e40 : gI M4 142 40 = cn (nfb P F T) t.toNat := by rw [f24.g rfl]; exact q40
      have e41 : gI M4 142 41 = cn (psB P F T 0) t.toNat := by rw [f24.g rfl]; exact q41
      have ek : ∀ k, 0 ≤ k → k < P 2 15 → gI M4 159 k = cn (dB P F T k 0) t.toNat ∧ gI M4 160 k = cn (dB P F T k 1) t.toNat := fun k k0 k1 => by rw [f24.g rfl, f24.g rfl]; exact qk k k0 k1
      have hd0 : hdB T 0 t = true := by unfold hdB; rw [if_neg h4]; rfl
      -- the nodes
      have nodes : ∀ M5 b, okT P F T t = b → (b = 0 ∨ b = 1) → Fr qSpec M M5 → gI M5 142 40 = cn (nfb P F T) (t + 1).toNat → gI M5 142 41 = cn (psB P F T 0) (t + 1).toNat → (∀ k, 0 ≤ k → k < P 2 15 → gI M5 157 k = ((runP P F (T t)).2.1.count k : Int)) → (∀ k, 0 ≤ k → k < P 2 15 → gI M5 159 k = cn (dB P F T k 0) t.toNat ∧ gI M5 160 k = cn (dB P F T k 1) t.toNat) → k12_laysSpectra_100 t b 0 M5 K := by
        intro M5 b hb hb01 f5 g40 g41 g157 gk
        refine upto (n := P 2 15) (I := fun k M6 => Fr qSpec M M6 ∧ gI M6 142 40 = cn (nfb P F T) (t + 1).toNat ∧ gI M6 142 41 = cn (psB P F T 0) (t + 1).toNat ∧ (∀ k, 0 ≤ k → k < P 2 15 → gI M6 157 k = ((runP P F (T t)).2.1.count k : Int)) ∧ (∀ j, 0 ≤ j → j < k → gI M6 159 j = cn (dB P F T j 0) (t + 1).toNat ∧ gI M6 160 j = cn (dB P F T j 1) (t + 1).toNat) ∧ (∀ j, k ≤ j → j < P 2 15 → gI M6 159 j = cn (dB P F T j 0) t.toNat ∧ gI M6 160 j = cn (dB P F T j 1) t.toNat)) (Q := fun k M6 => k12_laysSpectra_100 t b k M6 K) ?_ ?_ 0 M5 (by decide) (by omega) ⟨f5, g40, g41, g157, fun j j0 j1 => by omega, fun j j0 j1 => gk j j0 j1⟩
        · intro M6 ⟨f6, a40, a41, a157, aj, _⟩
          apply k12_laysSpectra_100_r
          rw [(keep M6 f6).1.1, if_neg (by omega), wt]
          exact ih M6 ⟨f6, a40, a41, aj⟩
        · intro k M6 k0 k1 ⟨f6, a40, a41, a157, aj, au⟩ ihk
          apply k12_laysSpectra_100_r
          rw [(keep M6 f6).1.1, if_pos k1, w32_id (show -2147483648 ≤ k + 1 ∧ k + 1 < 2147483648 by omega)]
          refine ⟨⟨k0, by omega⟩, ?_⟩
          obtain ⟨u0, u1⟩ := au k (Int.le_refl _) k1
          rw [a157 k k0 k1, u0, u1]
          have c0 := cn_le (dB P F T k 0) t.toNat
          have c1 := cn_le (dB P F T k 1) t.toNat
          -- with the node's counts known
          have fin : ∀ M7, Fr qSpec M M7 → (∀ a j, a ≠ 159 → a ≠ 160 → gI M7 a j = gI M6 a j) → (∀ j, 0 ≤ j → j ≠ k → gI M7 159 j = gI M6 159 j ∧ gI M7 160 j = gI M6 160 j) → gI M7 159 k = cn (dB P F T k 0) (t + 1).toNat → gI M7 160 k = cn (dB P F T k 1) (t + 1).toNat → k12_laysSpectra_100 t b (k + 1) M7 K := by
            intro M7 f7 o7 n7 e0 e1
            refine ihk M7 ⟨f7, ?_, ?_, ?_, ?_, ?_⟩
            · rw [o7 _ _ (by decide) (by decide)]; exact a40
            · rw [o7 _ _ (by decide) (by decide)]; exact a41
            · intro j j0 j1; rw [o7 _ _ (by decide) (by decide)]; exact a157 j j0 j1
            · intro j j0 j1
              by_cases e : j = k
              · subst e; exact ⟨e0, e1⟩
              · rw [(n7 j j0 e).1, (n7 j j0 e).2]; exact aj j j0 (by omega)
            · intro j j0 j1
              rw [(n7 j (by omega) (by omega)).1, (n7 j (by omega) (by omega)).2]; exact au j (by omega) j1
          by_cases hm : k ∈ (runP P F (T t)).2.1
          · have := List.count_pos_iff.mpr hm
            rw [if_neg (by omega)]
            have wz : ∀ x : Int, 0 ≤ x → x ≤ 1000 → w32 (x + 0) = x := fun x a b => by rw [Int.add_zero]; exact w32_id (by omega)
            rcases hb01 with z | z
            · subst z
              rw [if_pos rfl, wz _ c1.1 (by omega), w32_id (by omega)]
              have d0 : dB P F T k 0 t = true := by unfold dB; rw [hd0, hb]; simp [hm]
              have d1 : dB P F T k 1 t = false := by unfold dB; rw [hb]; simp
              refine fin _ ((f6.up _ rfl).up _ rfl) ?_ ?_ ?_ ?_
              · intro a j a1 a2; rw [gI_ne _ _ _ _ a1, gI_ne _ _ _ _ a2]
              · intro j j0 jk; exact ⟨by rw [gI_nf _ _ (by omega), gI_ne _ _ _ _ (by decide)], by rw [gI_ne _ _ _ _ (by decide), gI_nf _ _ (by omega)]⟩
              · rw [gI_eq, cn_yes t0 d0]
              · rw [gI_ne _ _ _ _ (by decide), gI_eq, cn_no t0 d1]
            · subst z
              rw [if_neg (by decide), wz _ c0.1 (by omega), w32_id (by omega)]
              have d0 : dB P F T k 0 t = false := by unfold dB; rw [hb]; simp
              have d1 : dB P F T k 1 t = true := by unfold dB; rw [hd0, hb]; simp [hm]
              refine fin _ ((f6.up _ rfl).up _ rfl) ?_ ?_ ?_ ?_
              · intro a j a1 a2; rw [gI_ne _ _ _ _ a1, gI_ne _ _ _ _ a2]
              · intro j j0 jk; exact ⟨by rw [gI_nf _ _ (by omega), gI_ne _ _ _ _ (by decide)], by rw [gI_ne _ _ _ _ (by decide), gI_nf _ _ (by omega)]⟩
              · rw [gI_eq, cn_no t0 d0]
              · rw [gI_ne _ _ _ _ (by decide), gI_eq, cn_yes t0 d1]
          · have := List.count_eq_zero.mpr hm
            rw [if_pos (by omega)]
            have d0 : dB P F T k 0 t = false := by unfold dB; simp [hm]
            have d1 : dB P F T k 1 t = false := by unfold dB; simp [hm]
            exact fin M6 f6 (fun _ _ _ _ => rfl) (fun _ _ _ => ⟨rfl, rfl⟩) (by rw [cn_no t0 d0]; exact u0) (by rw [cn_no t0 d1]; exact u1)
      rcases okT_01 P F T t with z | z
      · rw [z, if_pos rfl, e41, e40]
        have n1 : nfb P F T t = true := by unfold nfb; rw [hd0, z]; rfl
        have n2 : psB P F T 0 t = false := by unfold psB; rw [z]; simp
        refine nodes _ 0 z (Or.inl rfl) ((f4.up _ rfl).up _ rfl) ?_ ?_ ?_ ?_
        · rw [gI_eq, cn_yes t0 n1]; exact w32_id (by omega)
        · rw [gI_nf _ _ (by decide), gI_eq, cn_no t0 n2, Int.add_zero]; exact w32_id (by omega)
        · intro k k0 k1; rw [gI_ne _ _ _ _ (by decide), gI_ne _ _ _ _ (by decide)]; exact c157 k k0 (by omega)
        · intro k k0 k1; rw [gI_ne _ _ _ _ (by decide), gI_ne _ _ _ _ (by decide), gI_ne _ _ _ _ (by decide), gI_ne _ _ _ _ (by decide)]; exact ek k k0 k1
      · rw [z, if_neg (by decide), e41, e40]
        have n1 : nfb P F T t = false := by unfold nfb; rw [z]; simp
        have n2 : psB P F T 0 t = true := by unfold psB; rw [hd0, z]; rfl
        refine nodes _ 1 z (Or.inr rfl) ((f4.up _ rfl).up _ rfl) ?_ ?_ ?_ ?_
        · rw [gI_eq, cn_no t0 n1, Int.add_zero]; exact w32_id (by omega)
        · rw [gI_nf _ _ (by decide), gI_eq, cn_yes t0 n2]; exact w32_id (by omega)
        · intro k k0 k1; rw [gI_ne _ _ _ _ (by decide), gI_ne _ _ _ _ (by decide)]; exact c157 k k0 (by omega)
        · intro k k0 k1; rw [gI_ne _ _ _ _ (by decide), gI_ne _ _ _ _ (by decide), gI_ne _ _ _ _ (by decide), gI_ne _ _ _ _ (by decide)]; exact ek k k0 k1
  apply k12_laysSpectra_r
  refine upto (n := 60) (I := fun k M2 => Fr qSpec M M2 ∧ gI M2 142 40 = 0 ∧ gI M2 142 41 = 0 ∧ ∀ j, 0 ≤ j → j < k → gI M2 159 j = 0 ∧ gI M2 160 j = 0) (Q := fun k M2 => k12_laysSpectra_12 k M2 K) ?_ ?_ 0 _ (by decide) (by decide) ⟨(Fr.rf.up _ rfl).up _ rfl, by rw [gI_nf _ _ (by decide), gI_eq], by rw [gI_eq], fun j j0 j1 => by omega⟩
  · intro M2 ⟨f2, a40, a41, aj⟩
    apply k12_laysSpectra_12_r
    rw [if_neg (by decide)]
    exact tests M2 f2 ⟨a40, a41, fun k k0 k1 => aj k k0 (by omega)⟩
  · intro k M2 k0 k1 ⟨f2, a40, a41, aj⟩ ih
    apply k12_laysSpectra_12_r
    rw [if_pos k1, w32_id (show -2147483648 ≤ k + 1 ∧ k + 1 < 2147483648 by omega)]
    refine ⟨⟨k0, k1⟩, ih _ ⟨(f2.up _ rfl).up _ rfl, ?_, ?_, ?_⟩⟩
    · rw [gI_ne _ _ _ _ (by decide), gI_ne _ _ _ _ (by decide)]; exact a40
    · rw [gI_ne _ _ _ _ (by decide), gI_ne _ _ _ _ (by decide)]; exact a41
    · intro j j0 j1
      rw [gI_ne _ _ _ _ (by decide), gI_up _ _ k0 j0, gI_up _ _ k0 j0, gI_ne _ _ _ _ (by decide)]
      by_cases e : j = k
      · rw [if_pos e, if_pos e]; exact ⟨rfl, rfl⟩
      · rw [if_neg e, if_neg e]; exact aj j j0 (by omega)
def qSc (a i : Nat) : Bool := a == 142 && (i == 42 || i == 43)
theorem scores178_r {M : pm_M} {K : pm_M → Prop} : ∀ (n : Nat) (a b : Int), b.toNat ≤ n → 0 ≤ a → 0 ≤ b → (0 < a ∨ 0 < b) → K (upI (upI M 142 42 (w32 ((gI M 142 42).tdiv (G a b)))) 142 43 (w32 ((gI M 142 43).tdiv (G a b)))) → k12_scores_178 a b M K := by
  intro n
  induction n with
  | zero =>
    intro a b hn ha hb hp hq
    have : b = 0 := by omega
    subst this
    apply k12_scores_178_r
    rw [if_pos rfl]
    rw [G_0 ha] at hq
    exact ⟨by omega, hq⟩
  | succ n ih =>
    intro a b hn ha hb hp hq
    apply k12_scores_178_r
    by_cases e : b = 0
    · subst e
      rw [if_pos rfl]
      rw [G_0 ha] at hq
      exact ⟨by omega, hq⟩
    · rw [if_neg e]
      have hr := tm_nat ha hb
      have := Nat.mod_lt a.toNat (show 0 < b.toNat by omega)
      rw [← G_step ha hb] at hq
      exact ih b (a.tmod b) (by omega) hb (by omega) (Or.inl (by omega)) hq

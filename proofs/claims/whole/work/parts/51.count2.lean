-- needs 30 31 32 33a 33b 33c 33d 33e 33f 33g 33h 33i 33j 40 41 42 43 44 45 46 50
/-! loops from a number up to another; whether all shown tests pass; the reference's counts -/
theorem upto {S : Type} {n : Int} {I Q : Int → S → Prop} (fin : ∀ s, I n s → Q n s) (step : ∀ i s, 0 ≤ i → i < n → I i s → (∀ s', I (i + 1) s' → Q (i + 1) s') → Q i s) : ∀ i s, 0 ≤ i → i ≤ n → I i s → Q i s := by
  have key : ∀ (m : Nat) (i : Int) (s : S), i + m = n → 0 ≤ i → I i s → Q i s := by
    intro m
    induction m with
    | zero => intro i s h h0 hI; have : i = n := by omega
              subst this; exact fin s hI
    | succ m ih => intro i s h h0 hI; exact step i s h0 (by omega) hI (fun s' h' => ih (i + 1) s' (by omega) (by omega) h')
  intro i s h0 h1 hI
  exact key (n - i).toNat i s (by omega) h0 hI
theorem cn_succ (f : Int → Bool) {t : Int} (t0 : 0 ≤ t) : cn f (t + 1).toNat = cn f t.toNat + (if f t = true then 1 else 0) := by
  rw [show (t + 1).toNat = t.toNat + 1 by omega]
  show cn f t.toNat + (if f ((t.toNat : Nat) : Int) = true then 1 else 0) = _
  rw [Int.toNat_of_nonneg t0]
theorem cn_yes {f : Int → Bool} {t : Int} (t0 : 0 ≤ t) (h : f t = true) : cn f (t + 1).toNat = cn f t.toNat + 1 := by rw [cn_succ f t0, if_pos h]
theorem cn_no {f : Int → Bool} {t : Int} (t0 : 0 ≤ t) (h : f t = false) : cn f (t + 1).toNat = cn f t.toNat := by rw [cn_succ f t0, if_neg (by rw [h]; decide), Int.add_zero]
/-- what trying leaves as it was, in the class -/
def Rg (M M' : pm_M) : Prop := Off [73, 74, 75, 76] M M' ∧ gI M' 73 10 = gI M 73 10 ∧ gI M' 73 11 = gI M 73 11 ∧ gI M' 73 12 = gI M 73 12
theorem Rf.g {M M' : pm_M} (h : Rf M M') : Rg M M' := ⟨h.1, h.2.1, h.2.2.1, h.2.2.2.1⟩
theorem Rg.rf {M : pm_M} : Rg M M := ⟨Off.rf, rfl, rfl, rfl⟩
theorem Rg.trans {M M' M'' : pm_M} (h : Rg M M') (h' : Rg M' M'') : Rg M M'' := ⟨h.1.trans h'.1, h'.2.1.trans h.2.1, h'.2.2.1.trans h.2.2.1, h'.2.2.2.trans h.2.2.2⟩
theorem Rg.sm {M M' : pm_M} {P : Pg} (h : Rg M M') (hS : Sm P M) : Sm P M' := hS.off h.1 (by decide)
theorem Rg.fm {M M' : pm_M} {F : Fo} (h : Rg M M') (hF : Fm F M) : Fm F M' := ⟨h.2.1.trans hF.1, fun z => h.2.2.1.trans (hF.2.1 z), h.2.2.2.trans hF.2.2.1, hF.2.2.2⟩
theorem Rg.ct {M M' : pm_M} {T : Ts} {nT : Int} (h : Rg M M') (hT : CT T nT M) : CT T nT M' := hT.off h.1 (by decide)
theorem okT_01 (P : Pg) (F : Fo) (T : Ts) (t : Int) : okT P F T t = 0 ∨ okT P F T t = 1 := okP_01 _ _
theorem allShownPass_r {P : Pg} {F : Fo} {T : Ts} {nT : Int} (hW : PWr P) {M : pm_M} {K : Int → pm_M → Prop} (hS : Sm P M) (hF : Fm F M) (hT : CT T nT M)
    (h1 : allP P F T nT → ∀ M', Rg M M' → K 1 M') (h0 : ¬ allP P F T nT → ∀ M', Rg M M' → K 0 M') : k1_allShownPass M K := by
  have hnT := hT.2.1
  -- the loop behind the one that goes ahead
  have loop : ∀ (a : Int), (0 ≤ a → a < nT → ¬ T a 4 = 1 → okT P F T a = 1) → ∀ M1, Rg M M1 → k1_allShownPass_28 a 0 M1 K := by
    intro a ha M1 hR1
    refine upto (n := nT) (I := fun t M2 => Rg M M2 ∧ ∀ u, 0 ≤ u → u < t → ¬ T u 4 = 1 → okT P F T u = 1) (Q := fun t M2 => k1_allShownPass_28 a t M2 K) ?_ ?_ 0 M1 (by omega) (by omega) ⟨hR1, fun u u0 u1 => by omega⟩
    · intro M2 ⟨hR, hu⟩
      apply k1_allShownPass_28_r
      rw [(hR.ct hT).1, if_neg (by omega)]
      exact h1 hu M2 hR
    · intro t M2 t0 t1 ⟨hR, hu⟩ ih
      have hT2 := hR.ct hT
      apply k1_allShownPass_28_r
      rw [hT2.1, if_pos t1, w32_id (show -2147483648 ≤ t + 1 ∧ t + 1 < 2147483648 by omega)]
      have on : (¬ T t 4 = 1 → okT P F T t = 1) → ∀ M3, Rg M M3 → k1_allShownPass_28 a (t + 1) M3 K := by
        intro ht M3 hR3
        refine ih M3 ⟨hR3, fun u u0 u1 => ?_⟩
        by_cases e : u = t
        · subst e; exact ht
        · exact hu u u0 (by omega)
      by_cases hta : t = a
      · rw [if_pos hta]; subst hta; exact on (ha t0 t1) M2 hR
      rw [if_neg hta, if_neg (by omega)]
      refine ⟨⟨t0, by omega⟩, ?_⟩
      rw [hT2.2.2 t 4 t0 t1 (by decide) (by decide)]
      by_cases h4 : T t 4 = 1
      · rw [if_pos h4]; exact on (fun z => absurd h4 z) M2 hR
      rw [if_neg h4]
      refine cpasses_r hW t0 t1 (hR.sm hS) (hR.fm hF) hT2 (fun M3 hR3 _ => ?_)
      rcases okT_01 P F T t with z | z
      · rw [z, if_pos rfl]
        refine h0 (fun h => ?_) _ (hR.trans (Rg.trans hR3.g ⟨Off.rf.up (by decide) _ _, ?_, ?_, ?_⟩))
        · rw [h t t0 t1 h4] at z; omega
        · exact gI_nf _ _ (by decide)
        · exact gI_nf _ _ (by decide)
        · exact gI_nf _ _ (by decide)
      · rw [z, if_neg (by decide)]
        exact on (fun _ => z) M3 (hR.trans hR3.g)
  apply k1_allShownPass_r
  generalize gI M 73 13 = a
  by_cases ha : a < 0
  · rw [if_pos ha]; exact loop a (fun z => by omega) M Rg.rf
  rw [if_neg ha, hT.1]
  by_cases ha1 : a < nT
  case neg => rw [if_neg ha1]; exact loop a (fun _ z => absurd z ha1) M Rg.rf
  rw [if_pos ha1]
  refine ⟨⟨by omega, by omega⟩, ?_⟩
  rw [hT.2.2 a 4 (by omega) ha1 (by decide) (by decide)]
  by_cases h4 : T a 4 = 1
  · rw [if_pos h4]; exact loop a (fun _ _ z => absurd h4 z) M Rg.rf
  rw [if_neg h4]
  refine cpasses_r hW (by omega) ha1 hS hF hT (fun M3 hR3 _ => ?_)
  rcases okT_01 P F T a with z | z
  · rw [z, if_pos rfl]
    exact h0 (fun h => by rw [h a (by omega) ha1 h4] at z; omega) _ hR3.g
  · rw [z, if_neg (by decide)]
    exact loop a (fun _ _ _ => z) M3 hR3.g
/-- the tests as the reference runs them -/
theorem rpassesT_r {P : Pg} {F : Fo} {T : Ts} {nT : Int} (hW : PWr P) (hs : PWs P) (ht : PWt P) (hp0 : 0 < P 2 15) {t : Int} (t0 : 0 ≤ t) (t1 : t < nT) {M : pm_M} {K : Int → pm_M → Prop} (hP : RP P M) (hF : FmR F M) (hT : RT T nT M)
    (hq : ∀ M', Qf M M' → (∃ ret, Rr (runP P F (T t)) ret M') → K (okT P F T t) M') : k12_passes t M K := by
  have := hT.2.1
  refine rpasses_r hW hs ht hp0 ⟨t0, by omega⟩ hP hF (fun M' hR hC _ => ?_)
  rw [hT.run t0 t1] at hC ⊢
  rw [hT.due t0 t1]
  exact hq M' hR hC
theorem manyPass_r {P : Pg} {F : Fo} {T : Ts} {nT : Int} (hW : PWr P) (hs : PWs P) (ht : PWt P) (hp0 : 0 < P 2 15) {b : Int} (hb : b = 0 ∨ b = 1) {M : pm_M} {K : Int → pm_M → Prop} (hP : RP P M) (hF : FmR F M) (hT : RT T nT M)
    (hq : ∀ M', Qf M M' → K (cn (psB P F T b) nT.toNat) M') : k12_manyPass b M K := by
  apply k12_manyPass_r
  have hnT := hT.2.1
  refine upto (n := nT) (I := fun t M1 => Qf M M1) (Q := fun t M1 => k12_manyPass_4 b (cn (psB P F T b) t.toNat) t M1 K) ?_ ?_ 0 M (by omega) (by omega) Qf.rf
  · intro M1 hQ
    apply k12_manyPass_4_r
    rw [(hT.qf hQ).1, if_neg (by omega)]
    exact hq M1 hQ
  · intro t M1 t0 t1 hQ ih
    have hT1 := hT.qf hQ
    have hc := cn_le (psB P F T b) t.toNat
    have w5 : w32 (w32 (5 * t) + 4) = 5 * t + 4 := by rw [w32_id (show -2147483648 ≤ 5 * t ∧ 5 * t < 2147483648 by omega), w32_id (by omega)]
    have wt : w32 (t + 1) = t + 1 := w32_id (by omega)
    have wc : w32 (cn (psB P F T b) t.toNat + 1) = cn (psB P F T b) t.toNat + 1 := w32_id (by omega)
    have wc0 : w32 (cn (psB P F T b) t.toNat + 0) = cn (psB P F T b) t.toNat := by rw [Int.add_zero]; exact w32_id (by omega)
    apply k12_manyPass_4_r
    rw [hT1.1, if_pos t1, w5, wt, wc, wc0]
    refine ⟨⟨by omega, by omega⟩, ?_⟩
    rw [hT1.2.2 t 4 t0 t1 (by decide) (by decide)]
    have no : hdB T b t = false → k12_manyPass_4 b (cn (psB P F T b) t.toNat) (t + 1) M1 K := by
      intro h
      have h2 := ih M1 hQ
      rw [cn_no t0 (by unfold psB; rw [h]; rfl)] at h2
      exact h2
    have yes : hdB T b t = true → k12_passes t M1 (fun r6 M5 => (if r6 = 0 then k12_manyPass_4 b (cn (psB P F T b) t.toNat) (t + 1) M5 K else k12_manyPass_4 b (cn (psB P F T b) t.toNat + 1) (t + 1) M5 K)) := by
      intro h
      refine rpassesT_r hW hs ht hp0 t0 t1 (hQ.rp hP) (hQ.fm hF) hT1 (fun M' hQ' _ => ?_)
      have h2 := ih M' (hQ.trans hQ')
      rcases okT_01 P F T t with z | z
      · rw [z, if_pos rfl]
        rw [cn_no t0 (by unfold psB; rw [z]; simp)] at h2
        exact h2
      · rw [z, if_neg (by decide)]
        rw [cn_yes t0 (by unfold psB; rw [z, h]; simp)] at h2
        exact h2
    by_cases h4 : T t 4 = 1
    · rw [if_pos h4]
      by_cases hb1 : 1 = b
      · rw [if_pos hb1]; exact yes (by unfold hdB; rw [if_pos h4]; simp [hb1])
      · rw [if_neg hb1]; exact no (by unfold hdB; rw [if_pos h4]; simp [hb1])
    · rw [if_neg h4]
      by_cases hb1 : 0 = b
      · rw [if_pos hb1]; exact yes (by unfold hdB; rw [if_neg h4]; simp [hb1])
      · rw [if_neg hb1]; exact no (by unfold hdB; rw [if_neg h4]; simp [hb1])
theorem manyTests_r {T : Ts} {nT : Int} {b : Int} (hb : b = 0 ∨ b = 1) {M : pm_M} {K : Int → pm_M → Prop} (hT : RT T nT M)
    (hq : K (cn (hdB T b) nT.toNat) M) : k12_manyTests b M K := by
  apply k12_manyTests_r
  have hnT := hT.2.1
  refine upto (n := nT) (I := fun t (_ : Unit) => True) (Q := fun t _ => k12_manyTests_4 b (cn (hdB T b) t.toNat) t M K) ?_ ?_ 0 () (by omega) (by omega) trivial
  · intro _ _
    apply k12_manyTests_4_r
    rw [hT.1, if_neg (by omega)]
    exact hq
  · intro t _ t0 t1 _ ih
    have hc := cn_le (hdB T b) t.toNat
    have w5 : w32 (w32 (5 * t) + 4) = 5 * t + 4 := by rw [w32_id (show -2147483648 ≤ 5 * t ∧ 5 * t < 2147483648 by omega), w32_id (by omega)]
    have wt : w32 (t + 1) = t + 1 := w32_id (by omega)
    have wc : w32 (cn (hdB T b) t.toNat + 1) = cn (hdB T b) t.toNat + 1 := w32_id (by omega)
    have wc0 : w32 (cn (hdB T b) t.toNat + 0) = cn (hdB T b) t.toNat := by rw [Int.add_zero]; exact w32_id (by omega)
    apply k12_manyTests_4_r
    rw [hT.1, if_pos t1, w5, wt, wc, wc0]
    refine ⟨⟨by omega, by omega⟩, ?_⟩
    rw [hT.2.2 t 4 t0 t1 (by decide) (by decide)]
    have h2 := ih () trivial
    have no : hdB T b t = false → k12_manyTests_4 b (cn (hdB T b) t.toNat) (t + 1) M K := by
      intro h; rw [cn_no t0 h] at h2; exact h2
    have yes : hdB T b t = true → k12_manyTests_4 b (cn (hdB T b) t.toNat + 1) (t + 1) M K := by
      intro h; rw [cn_yes t0 h] at h2; exact h2
    by_cases h4 : T t 4 = 1
    · rw [if_pos h4]
      by_cases hb1 : 1 = b
      · rw [if_pos hb1]; exact yes (by unfold hdB; rw [if_pos h4]; simp [hb1])
      · rw [if_neg hb1]; exact no (by unfold hdB; rw [if_pos h4]; simp [hb1])
    · rw [if_neg h4]
      by_cases hb1 : 0 = b
      · rw [if_pos hb1]; exact yes (by unfold hdB; rw [if_neg h4]; simp [hb1])
      · rw [if_neg hb1]; exact no (by unfold hdB; rw [if_neg h4]; simp [hb1])
theorem allPass_r {P : Pg} {F : Fo} {T : Ts} {nT : Int} (hW : PWr P) (hs : PWs P) (ht : PWt P) (hp0 : 0 < P 2 15) {M : pm_M} {K : Int → pm_M → Prop} (hP : RP P M) (hF : FmR F M) (hT : RT T nT M)
    (h1 : allP P F T nT → ∀ M', Qf M M' → K 1 M') (h0 : ¬ allP P F T nT → ∀ M', Qf M M' → K 0 M') : k12_allPass M K := by
  have hnT := hT.2.1
  apply k12_allPass_r
  rw [hP.1, if_neg (by omega)]
  refine upto (n := nT) (I := fun t M2 => Qf M M2 ∧ ∀ u, 0 ≤ u → u < t → ¬ T u 4 = 1 → okT P F T u = 1) (Q := fun t M2 => k12_allPass_11 t M2 K) ?_ ?_ 0 M (by omega) (by omega) ⟨Qf.rf, fun u u0 u1 => by omega⟩
  · intro M2 ⟨hQ, hu⟩
    apply k12_allPass_11_r
    rw [(hT.qf hQ).1, if_neg (by omega)]
    exact h1 hu M2 hQ
  · intro t M2 t0 t1 ⟨hQ, hu⟩ ih
    have hT2 := hT.qf hQ
    have w5 : w32 (w32 (5 * t) + 4) = 5 * t + 4 := by rw [w32_id (show -2147483648 ≤ 5 * t ∧ 5 * t < 2147483648 by omega), w32_id (by omega)]
    have wt : w32 (t + 1) = t + 1 := w32_id (by omega)
    apply k12_allPass_11_r
    rw [hT2.1, if_pos t1, w5, wt]
    refine ⟨⟨by omega, by omega⟩, ?_⟩
    rw [hT2.2.2 t 4 t0 t1 (by decide) (by decide)]
    have on : (¬ T t 4 = 1 → okT P F T t = 1) → ∀ M3, Qf M M3 → k12_allPass_11 (t + 1) M3 K := by
      intro ht M3 hQ3
      refine ih M3 ⟨hQ3, fun u u0 u1 => ?_⟩
      by_cases e : u = t
      · subst e; exact ht
      · exact hu u u0 (by omega)
    by_cases h4 : T t 4 = 1
    · rw [if_pos h4]; exact on (fun z => absurd h4 z) M2 hQ
    rw [if_neg h4]
    refine rpassesT_r hW hs ht hp0 t0 t1 (hQ.rp hP) (hQ.fm hF) hT2 (fun M3 hQ3 _ => ?_)
    rcases okT_01 P F T t with z | z
    · rw [z, if_pos rfl]
      exact h0 (fun h => by rw [h t t0 t1 h4] at z; omega) _ (hQ.trans hQ3)
    · rw [z, if_neg (by decide)]
      exact on (fun _ => z) M3 (hQ.trans hQ3)

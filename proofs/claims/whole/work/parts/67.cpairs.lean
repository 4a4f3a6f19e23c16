-- needs 30 31 32 33a 33b 33c 33d 33e 33f 33g 33h 33i 33j 40 41 42 43 44 45 46 50 51 52 53 54 55 56 57 60 61 63 66
/-! the class seeks a pair -/
theorem f4_yes {P : Pg} {F : Fo} {T : Ts} {nT n c k d : Int} (h : allP (pc2 P n c k d) F T nT) : f4 P F T nT n c k d = some (n, c, k, d) := if_pos h
theorem f4_no {P : Pg} {F : Fo} {T : Ts} {nT n c k d : Int} (h : ¬ allP (pc2 P n c k d) F T nT) : f4 P F T nT n c k d = none := if_neg h
/-- the statements that all failing tests come to, in a number's bits -/
def RA (P : Pg) (F : Fo) (T : Ts) (nT x : Int) : Prop := ∀ s, 0 ≤ s → s < 60 → (bt x s ↔ ∀ t, 0 ≤ t → t < nT → nfB P F T t → s ∈ (runP P F (T t)).2.2.2.2.2)
theorem reachedAll_r {P : Pg} {F : Fo} {T : Ts} {nT : Int} (hW : WF P) {M : pm_M} {K : Int → pm_M → Prop} (hS : Sm P M) (hF : Fm F M) (hT : CT T nT M)
    (hq : ∀ x M', Fr pRun M M' → RA P F T nT x → K x M') : k3_reachedByAllFailing M K := by
  have hnT := hT.2.1
  apply k3_reachedByAllFailing_r
  have h0 := upto (n := nT) (S := Int × pm_M) (I := fun t y => Fr pRun M y.2 ∧ ∀ s, 0 ≤ s → s < 60 → (bt y.1 s ↔ ∀ u, 0 ≤ u → u < t → nfB P F T u → s ∈ (runP P F (T u)).2.2.2.2.2)) (Q := fun t y => k3_reachedByAllFailing_6 y.1 t y.2 K) ?_ ?_ 0 (-1, M) (by decide) (by omega) ⟨Fr.rf, fun s s0 s1 => ⟨fun _ u u0 u1 => by omega, fun _ => bt_m1 s0 s1⟩⟩
  · exact h0
  · intro ⟨x, M2⟩ ⟨f2, h2⟩
    obtain ⟨m2, t2⟩ := pt_keep f2 ⟨rfl, rfl, rfl, rfl⟩ (fun a i h1 h2 => by simp [pRun]; omega) hF hT
    apply k3_reachedByAllFailing_6_r
    rw [t2.1, if_neg (by omega)]
    exact hq x M2 f2 h2
  · intro t ⟨x, M2⟩ t0 t1 ⟨f2, h2⟩ ih
    have s2 : Sm P M2 := f2.sm hS (fun a i h1 h2 => by simp [pRun]; omega)
    obtain ⟨m2, t2⟩ := pt_keep f2 ⟨rfl, rfl, rfl, rfl⟩ (fun a i h1 h2 => by simp [pRun]; omega) hF hT
    apply k3_reachedByAllFailing_6_r
    show (if t < gI M2 18 1 then _ else _)
    rw [t2.1, if_pos t1, if_neg (by omega), w32_id (show -2147483648 ≤ t + 1 ∧ t + 1 < 2147483648 by omega)]
    refine ⟨⟨t0, by omega⟩, ?_⟩
    rw [t2.2.2 t 4 t0 t1 (by decide) (by decide)]
    have skip : ∀ M3, Fr pRun M M3 → ¬ nfB P F T t → k3_reachedByAllFailing_6 x (t + 1) M3 K := by
      intro M3 f3 hno
      refine ih (x, M3) ⟨f3, fun s s0 s1 => ?_⟩
      rw [h2 s s0 s1]
      refine ⟨fun h u u0 u1 hu => ?_, fun h u u0 u1 hu => h u u0 (by omega) hu⟩
      by_cases e : u = t
      · subst e; exact absurd hu hno
      · exact h u u0 (by omega) hu
    by_cases h4 : T t 4 = 1
    · rw [if_pos h4]; exact skip M2 f2 (fun z => z.1 h4)
    rw [if_neg h4]
    refine cpasses_r hW.r t0 t1 s2 m2 t2 (fun M3 hR hC => ?_)
    have f3 : Fr pRun M M3 := f2.trans hR.fr
    rcases okT_01 P F T t with z | z
    · rw [z, if_pos rfl]
      refine ih (_, M3) ⟨f3, fun s s0 s1 => ?_⟩
      show bt (pm_land x (gI M3 73 9)) s ↔ _
      rw [bt_and s0 s1, hC.2.2.2.2.2.2 s s0 s1]
      have h2' := h2 s s0 s1
      simp only [] at h2'
      rw [h2']
      constructor
      · intro h u u0 u1 hu
        by_cases e : u = t
        · subst e; exact h.2
        · exact h.1 u u0 (by omega) hu
      · intro h
        exact ⟨fun u u0 u1 hu => h u u0 (by omega) hu, h t t0 (by omega) ⟨h4, z⟩⟩
    · rw [z, if_neg (by decide)]
      exact skip M3 f3 (fun y => by have := y.2; omega)
/-- what is known of each change by itself, up to a node -/
def WFs (P : Pg) (F : Fo) (T : Ts) (nT : Int) (n : Int) (M : pm_M) : Prop := ∀ k, 0 ≤ k → k < n → Susp P F T nT (P 7 k) → 0 ≤ gI M 140 k ∧ gI M 140 k ≤ 8 * k ∧ ∀ c, 0 ≤ c → c < chg P k → RA (pch P k c) F T nT (gI M 139 (gI M 140 k + c))
def pWf (a i : Nat) : Bool := pRun a i || a == 139 || a == 140
theorem pWf_2 : ∀ a i, 2 ≤ a → a < 18 → pWf a i = false := fun a i h1 h2 => by simp [pWf, pRun]; omega
theorem pWf_20 : ∀ a i, 20 ≤ a → a < 36 → pWf a i = false := fun a i h1 h2 => by simp [pWf, pRun]; omega
theorem learnWhat_r {P : Pg} {F : Fo} {T : Ts} {nT : Int} (hW : WF P) {M : pm_M} {K : pm_M → Prop} (hS : Sm P M) (hF : Fm F M) (hT : CT T nT M) (hsu : ∀ s, 0 ≤ s → s < 60 → (bt (gI M 138 7) s ↔ Susp P F T nT s))
    (hq : ∀ M', Fr pWf M M' → WFs P F T nT (P 2 15) M' → K M') : k3_learnWhatFails M K := by
  have h60 := hW.le
  have hsz := hW.x.2.2.2.2
  apply k3_learnWhatFails_r
  have h0 := upto (n := P 2 15) (S := Int × pm_M) (I := fun n y => 0 ≤ y.1 ∧ y.1 ≤ 8 * n ∧ Fr pWf M y.2 ∧ (∀ k, 0 ≤ k → k < n → Susp P F T nT (P 7 k) → 0 ≤ gI y.2 140 k ∧ gI y.2 140 k ≤ 8 * k ∧ gI y.2 140 k + chg P k ≤ y.1 ∧ ∀ c, 0 ≤ c → c < chg P k → RA (pch P k c) F T nT (gI y.2 139 (gI y.2 140 k + c)))) (Q := fun n y => k3_learnWhatFails_4 y.1 n y.2 K) ?_ ?_ 0 (0, M) (by decide) hsz ⟨Int.le_refl _, Int.le_refl _, Fr.rf, fun k k0 k1 => by omega⟩
  · exact h0
  · intro ⟨x, M2⟩ ⟨x0, x1, f2, h2⟩
    have s2 : Sm P M2 := f2.sm hS pWf_2
    apply k3_learnWhatFails_4_r
    show (if P 2 15 < gI M2 2 15 then _ else _)
    rw [s2 2 (by decide) (by decide), if_neg (by omega)]
    exact hq M2 f2 (fun k k0 k1 hk => ⟨(h2 k k0 k1 hk).1, (h2 k k0 k1 hk).2.1, (h2 k k0 k1 hk).2.2.2⟩)
  · intro n ⟨x, M2⟩ n0 n1 ⟨x0, x1, f2, h2⟩ ih
    simp only [] at x0 x1 f2 h2
    have s2 : Sm P M2 := f2.sm hS pWf_2
    have o1 : 0 ≤ P 7 n ∧ P 7 n < 60 := by
      obtain ⟨-, xs, -⟩ := hW.x.1 n n0 n1
      have a1 := xs.1
      have a2 := xs.2.1
      omega
    apply k3_learnWhatFails_4_r
    show (if n < gI M2 2 15 then _ else _)
    rw [s2 2 (by decide) (by decide), if_pos n1, s2 7 (by decide) (by decide), s2 4 (by decide) (by decide), s2 5 (by decide) (by decide), f2.g rfl]
    refine ⟨⟨n0, by omega⟩, ?_⟩
    have f3 : Fr pWf M (upI M2 140 n x) := f2.up _ rfl
    have s3 : Sm P (upI M2 140 n x) := f3.sm hS pWf_2
    have h3 : ∀ k, 0 ≤ k → k < n → Susp P F T nT (P 7 k) → 0 ≤ gI (upI M2 140 n x) 140 k ∧ gI (upI M2 140 n x) 140 k ≤ 8 * k ∧ gI (upI M2 140 n x) 140 k + chg P k ≤ x ∧ ∀ c, 0 ≤ c → c < chg P k → RA (pch P k c) F T nT (gI (upI M2 140 n x) 139 (gI (upI M2 140 n x) 140 k + c)) := by
      intro k k0 k1 hk
      rw [gI_up _ _ n0 k0, if_neg (by omega)]
      obtain ⟨a, b, c, d⟩ := h2 k k0 k1 hk
      refine ⟨a, b, c, fun c c0 c1 => ?_⟩
      rw [gI_ne _ _ _ _ (by decide)]; exact d c c0 c1
    have e3 : gI (upI M2 140 n x) 140 n = x := gI_eq _ _ _ _
    generalize upI M2 140 n x = M3 at *
    -- the changes of the node
    have loop : ∀ cc, 0 ≤ cc → cc ≤ 8 → cc ≤ chg P n → (Susp P F T nT (P 7 n) → cc = chg P n) → k3_learnWhatFails_72 x n cc (P 4 n) (P 5 n) 0 M3 K := by
      intro cc c0 c8 cch hcc
      have h5 := upto (n := cc) (I := fun c M4 => Fr pWf M M4 ∧ Sm P M4 ∧ gI M4 140 n = x ∧ (∀ k, 0 ≤ k → k < n → Susp P F T nT (P 7 k) → 0 ≤ gI M4 140 k ∧ gI M4 140 k ≤ 8 * k ∧ gI M4 140 k + chg P k ≤ x ∧ ∀ c, 0 ≤ c → c < chg P k → RA (pch P k c) F T nT (gI M4 139 (gI M4 140 k + c))) ∧ ∀ d, 0 ≤ d → d < c → RA (pch P n d) F T nT (gI M4 139 (x + d))) (Q := fun c M4 => k3_learnWhatFails_72 (x + c) n cc (P 4 n) (P 5 n) c M4 K) ?_ ?_ 0 M3 (by decide) c0 ⟨f3, s3, e3, h3, fun d d0 d1 => by omega⟩
      · rw [Int.add_zero] at h5; exact h5
      · intro M4 ⟨f4, s4, e4, h4, a4⟩
        apply k3_learnWhatFails_72_r
        rw [if_neg (by omega), w32_id (show -2147483648 ≤ n + 1 ∧ n + 1 < 2147483648 by omega)]
        refine ih (x + cc, M4) ⟨by simp only []; omega, by simp only []; omega, f4, fun k k0 k1 hk => ?_⟩
        simp only []
        by_cases e : k = n
        · subst e
          rw [e4]
          exact ⟨x0, x1, by have := hcc hk; omega, fun c c0 c1 => a4 c c0 (by have := hcc hk; omega)⟩
        · obtain ⟨q1, q2, q3, q4⟩ := h4 k k0 (by omega) hk
          exact ⟨q1, q2, by omega, q4⟩
      · intro c M4 k0 k1 ⟨f4, s4, e4, h4, a4⟩ ihc
        obtain ⟨m4, t4⟩ := pt_keep f4 ⟨rfl, rfl, rfl, rfl⟩ pWf_20 hF hT
        apply k3_learnWhatFails_72_r
        rw [if_pos k1, if_pos (by omega), w32_id (show -2147483648 ≤ c + 1 ∧ c + 1 < 2147483648 by omega), w32_id (show -2147483648 ≤ x + c + 1 ∧ x + c + 1 < 2147483648 by omega)]
        have hch : 0 ≤ c ∧ c < chg P n := ⟨k0, by omega⟩
        obtain ⟨hg, hc0, hcn⟩ := chg_nch hch
        have hWc := hW.ch ⟨n0, n1⟩ ⟨hc0, hcn⟩
        refine apply_r hW s4 ⟨n0, n1⟩ hch (fun M5 f5 s5 => ?_)
        obtain ⟨m5, t5⟩ := pt_keep f5 ⟨rfl, rfl, rfl, rfl⟩ (fun a i h1 h2 => by simp [pSet]; omega) m4 t4
        refine reachedAll_r hWc s5 m5 t5 (fun y M6 f6 hy => ?_)
        refine ⟨⟨by omega, by omega⟩, ⟨n0, by omega⟩, ?_⟩
        have s6 : Sm (pch P n c) M6 := f6.sm s5 (fun a i h1 h2 => by simp [pRun]; omega)
        have s6' : Sm (pch P n c) (upI M6 139 (x + c) y) := Fr.sm (p := fun a _ => a == 139) (Fr.rf.up _ rfl) s6 (fun a i h1 h2 => by simp; omega)
        have s7 : Sm P (upI (upI (upI M6 139 (x + c) y) 4 n (P 4 n)) 5 n (P 5 n)) := by
          have h := sm_45 (n := n) (v := P 4 n) (m := P 5 n) s6'
          unfold pch at h
          rw [pset_back s4] at h
          exact h
        have f7 : Fr (fun a i => pWf a i || pSet a i) M (upI (upI (upI M6 139 (x + c) y) 4 n (P 4 n)) 5 n (P 5 n)) := by
          have g1 : Fr (fun a i => pWf a i || pSet a i) M M6 := ((f4.mono (fun a i h => by simp only [h, Bool.true_or])).trans (f5.mono (fun a i h => by simp only [h, Bool.or_true]))).trans (f6.mono (fun a i h => by simp only [pWf, h, Bool.true_or]))
          exact ((g1.up _ (by simp [pWf])).up _ (by simp [pSet])).up _ (by simp [pSet])
        have f7' : Fr pWf M (upI (upI (upI M6 139 (x + c) y) 4 n (P 4 n)) 5 n (P 5 n)) := fr_back f7 (fun a i h => by
          simp only [Bool.or_eq_true, pSet, beq_iff_eq] at h; exact h) hS s7
        have o46 : ∀ a j, a = 139 ∨ a = 140 → gI M6 a j = gI M4 a j := by
          intro a j ha
          rw [f6.g (by rcases ha with rfl | rfl <;> rfl), f5.g (by rcases ha with rfl | rfl <;> rfl)]
        have o7 : ∀ j, gI (upI (upI (upI M6 139 (x + c) y) 4 n (P 4 n)) 5 n (P 5 n)) 140 j = gI M4 140 j := fun j => by
          rw [gI_ne _ _ _ _ (by decide), gI_ne _ _ _ _ (by decide), gI_ne _ _ _ _ (by decide), o46 _ _ (Or.inr rfl)]
        have o8 : ∀ j, 0 ≤ j → gI (upI (upI (upI M6 139 (x + c) y) 4 n (P 4 n)) 5 n (P 5 n)) 139 j = if j = x + c then y else gI M4 139 j := fun j j0 => by
          rw [gI_ne _ _ _ _ (by decide), gI_ne _ _ _ _ (by decide), gI_up _ _ (by omega) j0, o46 _ _ (Or.inl rfl)]
        have hih := ihc (upI (upI (upI M6 139 (x + c) y) 4 n (P 4 n)) 5 n (P 5 n)) ⟨f7', s7, by rw [o7]; exact e4, fun k q0 q1 hk => ?_, fun d d0 d1 => ?_⟩
        · rw [show x + (c + 1) = x + c + 1 by omega] at hih
          exact hih
        · rw [o7]
          obtain ⟨q1', q2', q3', q4'⟩ := h4 k q0 q1 hk
          refine ⟨q1', q2', q3', fun c' d0 d1 => ?_⟩
          rw [o8 _ (by omega), if_neg (by omega)]; exact q4' c' d0 d1
        · rw [o8 _ (by omega)]
          by_cases e : d = c
          · subst e; rw [if_pos rfl]; exact hy
          · rw [if_neg (by omega)]; exact a4 d d0 (by omega)
    have c8 := chg_le (P := P) (n := n)
    have c0 := chg_nn hW ⟨n0, n1⟩
    by_cases hb : bt (gI M 138 7) (P 7 n)
    · rw [if_pos (bt_lcmp.mpr hb)]
      refine changeCount_r hW s3 ⟨n0, n1⟩ ?_
      rw [s3 4 (by decide) (by decide), s3 5 (by decide) (by decide)]
      exact loop _ c0 c8 (Int.le_refl _) (fun _ => rfl)
    · rw [if_neg (fun z => hb (bt_lcmp.mp z))]
      exact loop 0 (by decide) (by decide) c0 (fun hk => absurd ((hsu _ o1.1 o1.2).mpr hk) hb)

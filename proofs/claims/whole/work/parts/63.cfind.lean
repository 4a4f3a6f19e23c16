-- needs 30 31 32 33a 33b 33c 33d 33e 33f 33g 33h 33i 33j 40 41 42 43 44 45 46 50 51 52 53 54 56 57 60 61 62
/-! the class tries the changes of the statements in their order -/
theorem fr_back {p q : Nat → Nat → Bool} {P : Pg} {M M' : pm_M} (f : Fr q M M') (h : ∀ a i, q a i = true → p a i = true ∨ a = 4 ∨ a = 5) (hS : Sm P M) (hS' : Sm P M') : Fr p M M' := by
  intro a i z
  cases e : q a i with
  | false => exact f a i e
  | true =>
    have h' := (h a i e).resolve_left (by rw [z]; decide)
    have key : gI M' a (i : Int) = gI M a (i : Int) := by
      rcases h' with rfl | rfl
      · rw [hS' 4 (by decide) (by decide), hS 4 (by decide) (by decide)]
      · rw [hS' 5 (by decide) (by decide), hS 5 (by decide) (by decide)]
    exact key
/-- a change put in, all shown tests run, what is done then, and the change taken out -/
theorem pt_keep {p : Nat → Nat → Bool} {F : Fo} {T : Ts} {nT : Int} {M M' : pm_M} (f : Fr p M M') (h1 : p 73 10 = false ∧ p 73 11 = false ∧ p 73 12 = false ∧ p 18 1 = false) (h2 : ∀ a i, 20 ≤ a → a < 36 → p a i = false) (hF : Fm F M) (hT : CT T nT M) : Fm F M' ∧ CT T nT M' := by
  have hnT := hT.2.1
  refine ⟨⟨?_, ?_, ?_, hF.2.2.2⟩, ⟨?_, hnT, ?_⟩⟩
  · rw [f.g h1.1]; exact hF.1
  · rw [f.g h1.2.1]; exact hF.2.1
  · rw [f.g h1.2.2.1]; exact hF.2.2.1
  · rw [f.g h1.2.2.2]; exact hT.1
  · intro t j t0 t1 j0 j1; rw [f.g (h2 _ _ (by omega) (by omega))]; exact hT.2.2 t j t0 t1 j0 j1
theorem pKeep_20 : ∀ a i, 20 ≤ a → a < 36 → pKeep a i = false := fun a i h1 h2 => by simp [pKeep, pTry]; omega
theorem pKeep_2 : ∀ a i, 2 ≤ a → a < 18 → pKeep a i = false := fun a i h1 h2 => by simp [pKeep, pTry]; omega
theorem try49_r {P : Pg} {F : Fo} {T : Ts} {nT : Int} (hW : WF P) {s n : Int} (hn : 0 ≤ n ∧ n < P 2 15) {M : pm_M} {K : pm_M → Prop} {acc : List (Int × Int)} (hl : (acc ++ mC P F T nT n (chg P n).toNat).length ≤ 480) (hS : Sm P M) (hF : Fm F M) (hT : CT T nT M) (hI : TI T nT) (hM : MI P F T nT acc M)
    (hq : ∀ M', Fr pKeep M M' → MI P F T nT (acc ++ mC P F T nT n (chg P n).toNat) M' → k2_tryStatement_2 s (w32 (n + 1)) M' K) : k2_tryStatement_49 s n (P 4 n) (P 5 n) (chg P n) 0 M K := by
  have h60 := hW.le
  have c8 := chg_le (P := P) (n := n)
  have c0 : 0 ≤ chg P n := by
    by_cases h : gone P n
    · rw [chg_gone h]; omega
    · rw [chg_not h]
      unfold nch
      split
      · omega
      · split
        · split <;> omega
        · split
          · rename_i e
            have hb := (hW.v.2 n hn.1 hn.2).2.1 e
            have hr := hW.r.2.2 n hn.1 hn.2 (Or.inl e)
            have ho := oc_but hb 9 0
            rw [if_pos ⟨hr.1, by omega⟩] at ho
            have := oc_nn (isV (P 2 18) (P 4 n)) 9 0
            have hp : pc (P 2 18) = oc (bi (P 2 18)) 9 0 := rfl
            omega
          · split
            · split <;> omega
            · omega
  refine upto (n := chg P n) (I := fun c M2 => Fr pKeep M M2 ∧ Sm P M2 ∧ MI P F T nT (acc ++ mC P F T nT n c.toNat) M2) (Q := fun c M2 => k2_tryStatement_49 s n (P 4 n) (P 5 n) (chg P n) c M2 K) ?_ ?_ 0 M (by decide) c0 ⟨Fr.rf, hS, by rw [show mC P F T nT n (0 : Int).toNat = [] from rfl, List.append_nil]; exact hM⟩
  · intro M2 ⟨f2, s2, i2⟩
    apply k2_tryStatement_49_r
    rw [if_neg (by omega)]
    exact hq M2 f2 i2
  · intro c M2 k0 k1 ⟨f2, s2, i2⟩ ih
    obtain ⟨hg, hc0, hcn⟩ := chg_nch ⟨k0, k1⟩
    have hWc := hW.ch hn ⟨hc0, hcn⟩
    obtain ⟨m2, t2⟩ := pt_keep f2 ⟨rfl, rfl, rfl, rfl⟩ pKeep_20 hF hT
    apply k2_tryStatement_49_r
    rw [if_pos k1, w32_id (show -2147483648 ≤ c + 1 ∧ c + 1 < 2147483648 by omega)]
    refine apply_r hW s2 hn ⟨k0, k1⟩ (fun M3 f3 s3 => ?_)
    obtain ⟨m3, t3⟩ := pt_keep f3 ⟨rfl, rfl, rfl, rfl⟩ (fun a i h1 h2 => by simp [pSet]; omega) m2 t2
    have ec : ((c.toNat : Nat) : Int) = c := Int.toNat_of_nonneg k0
    -- taken out again
    have back : ∀ M4 L, Fr pKeep M3 M4 → Sm (pch P n c) M4 → MI P F T nT L M4 → L = acc ++ mC P F T nT n (c + 1).toNat → k2_tryStatement_49 s n (P 4 n) (P 5 n) (chg P n) (c + 1) (upI (upI M4 4 n (P 4 n)) 5 n (P 5 n)) K := by
      intro M4 L f4 s4 i4 eL
      have s5 : Sm P (upI (upI M4 4 n (P 4 n)) 5 n (P 5 n)) := by
        have h := sm_45 (n := n) (v := P 4 n) (m := P 5 n) s4
        unfold pch at h
        rw [pset_back s2] at h
        exact h
      have f5 : Fr (fun a i => pKeep a i || pSet a i) M (upI (upI M4 4 n (P 4 n)) 5 n (P 5 n)) := by
        have g1 : Fr (fun a i => pKeep a i || pSet a i) M M4 := ((f2.mono (fun a i h => by simp only [h, Bool.true_or])).trans (f3.mono (fun a i h => by simp only [h, Bool.or_true]))).trans (f4.mono (fun a i h => by simp only [h, Bool.true_or]))
        exact (g1.up _ (by simp [pSet])).up _ (by simp [pSet])
      refine ih _ ⟨fr_back f5 (fun a i h => ?_) hS s5, s5, ?_⟩
      · simp only [Bool.or_eq_true, pSet, beq_iff_eq] at h
        exact h
      · rw [← eL]
        exact i4.fr (p := pSet) ((Fr.rf.up _ rfl).up _ rfl) rfl (fun a i h1 h2 => by simp [pSet]; omega)
    have i3 : MI P F T nT (acc ++ mC P F T nT n c.toNat) M3 := i2.fr f3 rfl (fun a i h1 h2 => by simp [pSet]; omega)
    refine allShownPass_r (nT := nT) hWc.r s3 m3 t3 ?_ ?_
    · intro ha M4 hg4
      rw [if_neg (by decide)]
      have f4 := hg4.fr
      obtain ⟨m4, t4⟩ := pt_keep f4 ⟨rfl, rfl, rfl, rfl⟩ (fun a i h1 h2 => by simp [pTry]; omega) m3 t3
      have s4 := hg4.sm s3
      have i4 : MI P F T nT (acc ++ mC P F T nT n c.toNat) M4 := i3.fr f4 rfl (fun a i h1 h2 => by simp [pTry]; omega)
      have hy : mC P F T nT n (c + 1).toNat = mC P F T nT n c.toNat ++ [(n, c)] := by
        rw [show (c + 1).toNat = c.toNat + 1 by omega, mC_yes (by rw [ec]; exact ha), ec]
      have hlen : (acc ++ mC P F T nT n c.toNat).length < 480 := by
        have h1 := mC_mono (P := P) (F := F) (T := T) (nT := nT) (n := n) (k := (c + 1).toNat) (k' := (chg P n).toNat) (by omega)
        rw [hy, List.length_append] at h1
        simp only [List.length_singleton] at h1
        rw [List.length_append] at hl ⊢
        omega
      refine keep_r hWc hlen s4 m4 t4 hI i4 (fun M5 f5 i5 => ?_)
      refine ⟨⟨hn.1, by omega⟩, back M5 _ ((f4.mono (fun a i h => by simp only [pKeep, h, Bool.true_or])).trans f5) (f5.sm s4 pKeep_2) i5 ?_⟩
      rw [hy, List.append_assoc]
    · intro ha M4 hg4
      rw [if_pos rfl]
      have f4 := hg4.fr
      have s4 := hg4.sm s3
      have i4 : MI P F T nT (acc ++ mC P F T nT n c.toNat) M4 := i3.fr f4 rfl (fun a i h1 h2 => by simp [pTry]; omega)
      have hy : mC P F T nT n (c + 1).toNat = mC P F T nT n c.toNat := by
        rw [show (c + 1).toNat = c.toNat + 1 by omega, mC_no (by rw [ec]; exact ha)]
      exact ⟨⟨hn.1, by omega⟩, back M4 _ (f4.mono (fun a i h => by simp only [pKeep, h, Bool.true_or])) s4 i4 (by rw [hy])⟩
theorem tryStatement_r {P : Pg} {F : Fo} {T : Ts} {nT : Int} (hW : WF P) {s : Int} (hs : isSt P s) {M : pm_M} {K : pm_M → Prop} {acc : List (Int × Int)} (hl : (acc ++ mN P F T nT s (P 9 s + 1 - s).toNat).length ≤ 480) (hS : Sm P M) (hF : Fm F M) (hT : CT T nT M) (hI : TI T nT) (hM : MI P F T nT acc M)
    (hq : ∀ M', Fr pKeep M M' → MI P F T nT (acc ++ mN P F T nT s (P 9 s + 1 - s).toNat) M' → K M') : k2_tryStatement s M K := by
  have h60 := hW.le
  have s0 : 0 ≤ s := hs.1
  obtain ⟨f, hE, hlt⟩ := hW.r.2.1 s hs.1 hs.2.1 hs.2.2
  have hle := hE.le
  apply k2_tryStatement_r
  have h0 := upto (n := P 9 s + 1 - s) (I := fun k M2 => Fr pKeep M M2 ∧ MI P F T nT (acc ++ mN P F T nT s k.toNat) M2) (Q := fun k M2 => k2_tryStatement_2 s (s + k) M2 K) ?_ ?_ 0 M (by decide) (by omega) ⟨Fr.rf, by rw [show mN P F T nT s (0 : Int).toNat = [] from rfl, List.append_nil]; exact hM⟩
  · rw [Int.add_zero] at h0; exact h0
  · intro M2 ⟨f2, i2⟩
    have s2 := f2.sm hS pKeep_2
    apply k2_tryStatement_2_r
    rw [s2 9 (by decide) (by decide), if_neg (by omega)]
    exact ⟨⟨s0, by omega⟩, hq M2 f2 i2⟩
  · intro k M2 k0 k1 ⟨f2, i2⟩ ih
    have s2 := f2.sm hS pKeep_2
    obtain ⟨m2, t2⟩ := pt_keep f2 ⟨rfl, rfl, rfl, rfl⟩ pKeep_20 hF hT
    apply k2_tryStatement_2_r
    rw [s2 9 (by decide) (by decide), if_pos (by omega)]
    refine ⟨⟨s0, by omega⟩, ⟨by omega, by omega⟩, ?_⟩
    have ek : ((k.toNat : Nat) : Int) = k := Int.toNat_of_nonneg k0
    have hN : mN P F T nT s (k + 1).toNat = mN P F T nT s k.toNat ++ mC P F T nT (s + k) (chg P (s + k)).toNat := by
      rw [show (k + 1).toNat = k.toNat + 1 by omega]
      show _ ++ mC P F T nT (s + ((k.toNat : Nat) : Int)) (chg P (s + ((k.toNat : Nat) : Int))).toNat = _
      rw [ek]
    refine changeCount_r hW s2 ⟨by omega, by omega⟩ ?_
    rw [s2 4 (by decide) (by decide), s2 5 (by decide) (by decide)]
    refine try49_r hW ⟨by omega, by omega⟩ ?_ s2 m2 t2 hI i2 (fun M3 f3 i3 => ?_)
    · have h1 := mN_mono (P := P) (F := F) (T := T) (nT := nT) (s := s) (k := (k + 1).toNat) (k' := (P 9 s + 1 - s).toNat) (by omega)
      rw [hN, List.length_append] at h1
      rw [List.length_append] at hl
      rw [List.length_append, List.length_append]
      omega
    · rw [w32_id (by omega), show s + k + 1 = s + (k + 1) by omega]
      refine ih M3 ⟨f2.trans f3, ?_⟩
      rw [hN, ← List.append_assoc]; exact i3
theorem mC_nil {P : Pg} {F : Fo} {T : Ts} {nT n : Int} : ∀ k : Nat, (∀ c : Nat, c < k → ¬ allP (pch P n (c : Int)) F T nT) → mC P F T nT n k = [] := by
  intro k
  induction k with
  | zero => intro _; rfl
  | succ k ih => intro h; rw [mC_no (h k (by omega)), ih (fun c hc => h c (by omega))]
theorem mN_nil {P : Pg} {F : Fo} {T : Ts} {nT s : Int} : ∀ k : Nat, (∀ j : Nat, j < k → mC P F T nT (s + j) (chg P (s + j)).toNat = []) → mN P F T nT s k = [] := by
  intro k
  induction k with
  | zero => intro _; rfl
  | succ k ih =>
    intro h
    show mN P F T nT s k ++ mC P F T nT (s + k) (chg P (s + k)).toNat = []
    rw [ih (fun j hj => h j (by omega)), h k (by omega)]; rfl
/-- what no failing test comes to mends nothing -/
theorem mN_prune {P : Pg} {F : Fo} {T : Ts} {nT : Int} (hW : WF P) {s : Int} (hs : isSt P s) (h : ¬ ∀ t, 0 ≤ t → t < nT → nfB P F T t → s ∈ (runP P F (T t)).2.2.2.2.2) : mN P F T nT s (P 9 s + 1 - s).toNat = [] := by
  have s0 : 0 ≤ s := hs.1
  obtain ⟨f, hE, hlt⟩ := hW.r.2.1 s hs.1 hs.2.1 hs.2.2
  have hle := hE.le
  refine mN_nil _ (fun j hj => mC_nil _ (fun c hc => ?_))
  have ho : P 7 (s + (j : Int)) = s := hW.x.2.1 s _ hs (by omega) (by omega)
  have hg : ¬ gone P (s + (j : Int)) := fun z => by rw [chg_gone z] at hc; exact absurd hc (Nat.not_lt_zero c)
  have h5 : ¬ P 5 s = 1 := fun z => hg (Or.inr (Or.inl (by rw [ho]; exact z)))
  have hd := Dif.set (P := P) (n := s + (j : Int)) (v := newv P (s + (j : Int)) (c : Int)) (m := newm P (s + (j : Int)) (c : Int)) (by omega)
  rw [ho] at hd
  exact allP_prune hW hd h5 h
theorem find_r {P : Pg} {F : Fo} {T : Ts} {nT : Int} (hW : WF P) {M : pm_M} {K : pm_M → Prop} (hS : Sm P M) (hF : Fm F M) (hT : CT T nT M) (hI : TI T nT) (hk : RKs P F T nT M) (hr : RNs P F T nT M) (hn : gI M 132 11 = 0 ∨ gI M 132 11 = 1) (hm : gI M 132 11 = 1 → MI P F T nT (mL P F T nT) M)
    (hq : ∀ M', Fr (fun a i => pKeep a i || (a == 132 && i == 11)) M M' → gI M' 132 11 = 1 → MI P F T nT (mL P F T nT) M' → K M') : k2_find M K := by
  obtain ⟨hx1, -, ⟨m0, m1, hrk⟩, hst, -⟩ := hW.x
  have hnT := hT.2.1
  have h60 := hW.le
  apply k2_find_r
  rcases hn with z | z
  case inr =>
    rw [z, if_neg (by decide)]
    exact hq M Fr.rf z (hm z)
  rw [z, if_pos rfl]
  have f1 : Fr (fun a i => pKeep a i || (a == 132 && i == 11)) M (upI (upI M 132 11 1) 132 10 0) := (Fr.rf.up _ rfl).up _ rfl
  have e11 : gI (upI (upI M 132 11 1) 132 10 0) 132 11 = 1 := by rw [gI_nf _ _ (by decide), gI_eq]
  have i0 : MI P F T nT [] (upI (upI M 132 11 1) 132 10 0) := ⟨by rw [gI_eq]; rfl, fun i hi => absurd hi (Nat.not_lt_zero i)⟩
  have stop : mL P F T nT = [] → K (upI (upI M 132 11 1) 132 10 0) := fun h => hq _ f1 e11 (by rw [h]; exact i0)
  by_cases hz : P 2 15 = 0
  · rw [(hk.1 hz).2.1, if_pos rfl]
    refine stop ?_
    have h16 : P 2 16 = 0 := by
      by_cases e : 0 < P 2 16
      · have := (hst 0 (by decide) e).1
        have a1 := this.1
        have a2 := this.2.1
        omega
      · omega
    unfold mL
    rw [h16]
    by_cases ha : allP P F T nT
    · rw [if_pos ha]
    · rw [if_neg ha]; rfl
  obtain ⟨k1, k2⟩ := hk.2 hz
  rw [k2.2.1]
  by_cases ha : allP P F T nT
  · rw [if_pos ((allP_cn hnT.1).mp ha)]
    exact stop (if_pos ha)
  rw [if_neg (fun y => ha ((allP_cn hnT.1).mpr y))]
  have hmL : mL P F T nT = mS P F T nT (P 2 16).toNat := if_neg ha
  have hlen := mS_len hW (F := F) (T := T) (nT := nT)
  rw [hmL] at hq
  clear stop
  generalize hM1 : upI (upI M 132 11 1) 132 10 0 = M1 at *
  have s1 : Sm P M1 := f1.sm hS (fun a i a1 a2 => by rw [pKeep_2 a i a1 a2]; simp; omega)
  obtain ⟨g1, t1⟩ := pt_keep f1 ⟨rfl, rfl, rfl, rfl⟩ (fun a i a1 a2 => by rw [pKeep_20 a i a1 a2]; simp; omega) hF hT
  refine upto (n := P 2 16) (I := fun i M2 => Fr pKeep M1 M2 ∧ MI P F T nT (mS P F T nT i.toNat) M2) (Q := fun i M2 => k2_find_31 i M2 K) ?_ ?_ 0 M1 (by decide) m0 ⟨Fr.rf, i0⟩
  · intro M2 ⟨f2, i2⟩
    apply k2_find_31_r
    rw [(f2.sm s1 pKeep_2) 2 (by decide) (by decide), if_neg (by omega)]
    exact hq M2 (f1.trans (f2.mono (fun a i h => by simp only [h, Bool.true_or]))) (by rw [f2.g rfl]; exact e11) i2
  · intro i M2 q0 q1 ⟨f2, i2⟩ ih
    have s2 := f2.sm s1 pKeep_2
    obtain ⟨m2, t2⟩ := pt_keep f2 ⟨rfl, rfl, rfl, rfl⟩ pKeep_20 g1 t1
    have ei : ((i.toNat : Nat) : Int) = i := Int.toNat_of_nonneg q0
    have hsx : mS P F T nT (i + 1).toNat = mS P F T nT i.toNat ++ mN P F T nT (rk P F T nT 1 i) (P 9 (rk P F T nT 1 i) + 1 - rk P F T nT 1 i).toNat := by
      rw [show (i + 1).toNat = i.toNat + 1 by omega]
      show _ ++ mN P F T nT (rk P F T nT 1 ((i.toNat : Nat) : Int)) (P 9 (rk P F T nT 1 ((i.toNat : Nat) : Int)) + 1 - rk P F T nT 1 ((i.toNat : Nat) : Int)).toNat = _
      rw [ei]
    have e130 : gI M2 130 i = rk P F T nT 1 i := by
      rw [f2.g rfl, ← hr.2 1 i (by decide) (by decide) q0 q1, ← hM1, gI_ne _ _ _ _ (by decide), gI_ne _ _ _ _ (by decide)]; rfl
    have e77 : gI M2 77 13 = gI M 77 13 := by
      rw [f2.g rfl, ← hM1, gI_ne _ _ _ _ (by decide), gI_ne _ _ _ _ (by decide)]
    have hrs := rk_st hW (F := F) (T := T) (nT := nT) (r := 1) q0 q1
    have r0 := hrs.1
    have r1 := hrs.2.1
    apply k2_find_31_r
    rw [s2 2 (by decide) (by decide), if_pos q1, w32_id (show -2147483648 ≤ i + 1 ∧ i + 1 < 2147483648 by omega), e130, e77]
    refine ⟨⟨q0, by omega⟩, ?_⟩
    have hbt := k2.2.2.2 (rk P F T nT 1 i) r0 (by omega)
    by_cases hb : bt (gI M 77 13) (rk P F T nT 1 i)
    · rw [if_pos (bt_lcmp.mpr hb)]
      refine tryStatement_r hW hrs ?_ s2 m2 t2 hI i2 (fun M3 f3 i3 => ih M3 ⟨f2.trans f3, by rw [hsx]; exact i3⟩)
      have := mS_mono (P := P) (F := F) (T := T) (nT := nT) (k := (i + 1).toNat) (k' := (P 2 16).toNat) (by omega)
      rw [hsx] at this
      omega
    · rw [if_neg (fun y => hb (bt_lcmp.mp y))]
      refine ih M2 ⟨f2, ?_⟩
      rw [hsx, mN_prune hW hrs (fun y => hb (hbt.mpr y)), List.append_nil]
      exact i2

-- needs 30 31 32 33a 33b 33c 33d 33e 33f 33g 33h 33i 33j 40 41 42 43 44 45 46 50 51 52 53 54 55 56 57 58 59 60 61 64
/-! the reference lays the mends -/
def qMd (a i : Nat) : Bool := qEnds a i || qAsk a i || qPut a i || a == 165 || a == 166 || (a == 142 && i == 50)
theorem qMd_rb {P : Pg} {F : Fo} {T : Ts} {nT : Int} {M M' : pm_M} (f : Fr qMd M M') (hB : RB P F T nT M) : RB P F T nT M' := hB.fr f (fun a i a1 a2 => by simp [qMd, qEnds, qRun, qAsk, qPut]; omega) ⟨rfl, rfl, rfl, rfl, rfl⟩
theorem laysMendsOf_r {P : Pg} {F : Fo} {T : Ts} {nT : Int} (hW : WF P) {n : Int} (hn : 0 ≤ n ∧ n < P 2 15) {M : pm_M} {K : pm_M → Prop} {acc : List (Int × Int)} (hl : (acc ++ mC P F T nT n (chg P n).toNat).length ≤ 480) (hB : RB P F T nT M) (hM : RMI P F T nT acc M)
    (hq : ∀ M', Fr qMd M M' → RMI P F T nT (acc ++ mC P F T nT n (chg P n).toNat) M' → K M') : k12_laysMendsOf n M K := by
  have h60 := hW.le
  have c8 := chg_le (P := P) (n := n)
  have c0 := chg_nn hW hn
  apply k12_laysMendsOf_r
  have askm : ∀ M1 M2, Fr qAsk M1 M2 → Fr qMd M1 M2 := fun M1 M2 f => f.mono (fun a i h => by simp only [qMd, h, Bool.or_true, Bool.true_or])
  have runm : ∀ M1 M2, Fr qRun M1 M2 → Fr qMd M1 M2 := fun M1 M2 f => f.mono (fun a i h => by simp only [qMd, qEnds, h, Bool.true_or])
  refine upto (n := chg P n) (I := fun c M2 => Fr qMd M M2 ∧ RMI P F T nT (acc ++ mC P F T nT n c.toNat) M2) (Q := fun c M2 => k12_laysMendsOf_2 n c M2 K) ?_ ?_ 0 M (by decide) c0 ⟨Fr.rf, by rw [show mC P F T nT n (0 : Int).toNat = [] from rfl, List.append_nil]; exact hM⟩
  · intro M2 ⟨f2, i2⟩
    have b2 := qMd_rb f2 hB
    apply k12_laysMendsOf_2_r
    refine asks_r hW b2.1 b2.2.2.2 hn (by omega) (fun _ M3 f3 => ?_) (fun _ z => by omega)
    rw [if_pos rfl]
    exact hq M3 (f2.trans (askm _ _ f3)) (i2.fr f3 rfl (fun a i h1 h2 => by simp [qAsk]; omega))
  · intro c M2 k0 k1 ⟨f2, i2⟩ ih
    have b2 := qMd_rb f2 hB
    obtain ⟨hg, hc0, hcn⟩ := chg_nch ⟨k0, k1⟩
    have hWc := hW.ch hn ⟨hc0, hcn⟩
    have ec : ((c.toNat : Nat) : Int) = c := Int.toNat_of_nonneg k0
    apply k12_laysMendsOf_2_r
    refine asks_r hW b2.1 b2.2.2.2 hn (by omega) (fun z => absurd ⟨k0, k1⟩ z) (fun _ _ M3 f3 hN => ?_)
    have b3 := qMd_rb (askm _ _ f3) b2
    have i3 : RMI P F T nT (acc ++ mC P F T nT n c.toNat) M3 := i2.fr f3 rfl (fun a i h1 h2 => by simp [qAsk]; omega)
    rw [if_neg (by decide), w32_id (show -2147483648 ≤ c + 1 ∧ c + 1 < 2147483648 by omega)]
    refine ⟨⟨hn.1, by omega⟩, ⟨hn.1, by omega⟩, ?_⟩
    have b4 := put0_rb h60 b3 hn hN
    have i4 : RMI P F T nT (acc ++ mC P F T nT n c.toNat) (put0 M3 n (gI M3 142 45) (gI M3 142 46)) := i3.fr (p := fun a i => qPut a i || a == 146 || a == 153) (by
      unfold put0
      exact ((((Fr.rf.up _ rfl).up _ rfl).up _ rfl).up _ rfl).up _ rfl) rfl (fun a i h1 h2 => by simp [qPut]; omega)
    have f23 : Fr qMd M M3 := f2.trans (askm _ _ f3)
    refine allPass_r (P := pch P n c) (F := F) (T := T) (nT := nT) hWc.r hWc.s hWc.t (show 0 < P 2 15 by omega) b4.1 b4.2.1 b4.2.2.1 ?_ ?_
    · intro ha M6 hQ
      have fQ := hQ.fr
      rw [if_neg (by decide)]
      have i6 : RMI P F T nT (acc ++ mC P F T nT n c.toNat) M6 := i4.fr fQ rfl (fun a i h1 h2 => by simp [qRun]; omega)
      have b6 : RB (pch P n c) F T nT M6 := b4.fr fQ (fun a i a1 a2 => by simp [qRun]; omega) ⟨rfl, rfl, rfl, rfl, rfl⟩
      have hy : mC P F T nT n (c + 1).toNat = mC P F T nT n c.toNat ++ [(n, c)] := by
        rw [show (c + 1).toNat = c.toNat + 1 by omega, mC_yes (by rw [ec]; exact ha), ec]
      have hlen : (acc ++ mC P F T nT n c.toNat).length < 480 := by
        have h1 := mC_mono (P := P) (F := F) (T := T) (nT := nT) (n := n) (k := (c + 1).toNat) (k' := (chg P n).toNat) (by omega)
        rw [hy, List.length_append] at h1
        simp only [List.length_singleton] at h1
        rw [List.length_append] at hl ⊢
        omega
      obtain ⟨L, hL⟩ : ∃ L : Nat, L = (acc ++ mC P F T nT n c.toNat).length := ⟨_, rfl⟩
      have e50 : gI M6 142 50 = (L : Int) := by rw [i6.1, hL]
      rw [e50]
      refine ⟨⟨by omega, by omega⟩, ?_⟩
      generalize hM8 : upI (upI M6 165 (L : Int) n) 166 (L : Int) c = M8
      have f8 : Fr (fun a i => (a == 165 || a == 166) && i == L) M6 M8 := by
        rw [← hM8]; exact (Fr.rf.up _ (by simp)).up _ (by simp)
      have i8 : RMI P F T nT (acc ++ mC P F T nT n c.toNat) M8 := by
        refine ⟨by rw [f8.g (by simp)]; exact i6.1, fun i hi => ?_⟩
        obtain ⟨y1, y2, y3, y4, y5⟩ := i6.2 i hi
        refine ⟨by rw [f8.g (by simp; omega)]; exact y1, by rw [f8.g (by simp; omega)]; exact y2, by rw [f8.g (by simp)]; exact y3, by rw [f8.g (by simp)]; exact y4, fun t t0 t1 => ?_⟩
        rw [f8.g (by simp), f8.g (by simp)]; exact y5 t t0 t1
      have b8 : RB (pch P n c) F T nT M8 := b6.fr f8 (fun a i a1 a2 => by simp; omega) ⟨rfl, rfl, rfl, rfl, rfl⟩
      refine laysEnds_r hWc (by omega) hlen b8 i8 (by rw [← hL, ← hM8, gI_ne _ _ _ _ (by decide), gI_eq]) (by rw [← hL, ← hM8, gI_eq]) (fun M9 f9 h9 => ?_)
      have e50' : gI M9 142 50 = (L : Int) := by rw [f9.g rfl, i8.1, hL]
      rw [e50', w32_id (by omega)]
      generalize hM10 : upI M9 142 50 ((L : Int) + 1) = M10
      have f10 : Fr (fun a i => a == 142 && i == 50) M9 M10 := by rw [← hM10]; exact Fr.rf.up _ rfl
      have i10 := h9 M10 f10 (by rw [← hM10, gI_eq, hL]; rfl)
      have fall : Fr (fun a i => qEnds a i || a == 165 || a == 166 || (a == 142 && i == 50)) (put0 M3 n (gI M3 142 45) (gI M3 142 46)) M10 := by
        refine ((Fr.trans (fQ.mono ?_) (f8.mono ?_)).trans (f9.mono ?_)).trans (f10.mono ?_)
        · intro a i h; simp only [qEnds, h, Bool.true_or]
        · intro a i h
          simp only [Bool.and_eq_true, Bool.or_eq_true, beq_iff_eq] at h ⊢
          rcases h.1 with h | h
          · exact Or.inl (Or.inl (Or.inr h))
          · exact Or.inl (Or.inr h)
        · intro a i h; simp only [h, Bool.true_or]
        · intro a i h; simp only [h, Bool.or_true]
      obtain ⟨r1, r2, r3, r4⟩ := rback fall (fun a i h => by simp [qEnds, qRun]; omega)
      have o9 : ∀ a, a ≠ 142 → gI M9 a 0 = gI M10 a 0 := fun a ha => (f10.g (by simp [ha])).symm
      rw [o9 162 (by decide), o9 163 (by decide), o9 164 (by decide), r1, r2, r3]
      refine ⟨⟨hn.1, by omega⟩, ⟨hn.1, by omega⟩, ih _ ⟨f23.trans (r4.mono (fun a i h => ?_)), ?_⟩⟩
      · simp only [qMd, Bool.or_eq_true] at h ⊢
        rcases h with (((h | h) | h) | h) | h
        · exact Or.inl (Or.inl (Or.inl (Or.inl (Or.inl h))))
        · exact Or.inl (Or.inl (Or.inr h))
        · exact Or.inl (Or.inr h)
        · exact Or.inr h
        · exact Or.inl (Or.inl (Or.inl (Or.inr h)))
      · rw [hy, ← List.append_assoc]
        exact i10.fr (p := qSet) ((Fr.rf.up _ rfl).up _ rfl) rfl (fun a i h1 h2 => by simp [qSet]; omega)
    · intro ha M6 hQ
      have fQ := hQ.fr
      rw [if_pos rfl]
      have i6 : RMI P F T nT (acc ++ mC P F T nT n c.toNat) M6 := i4.fr fQ rfl (fun a i h1 h2 => by simp [qRun]; omega)
      have hy : mC P F T nT n (c + 1).toNat = mC P F T nT n c.toNat := by
        rw [show (c + 1).toNat = c.toNat + 1 by omega, mC_no (by rw [ec]; exact ha)]
      obtain ⟨r1, r2, r3, r4⟩ := rback fQ (fun a i h => by simp [qRun]; omega)
      rw [r1, r2, r3]
      refine ⟨⟨hn.1, by omega⟩, ⟨hn.1, by omega⟩, ih _ ⟨f23.trans (r4.mono (fun a i h => ?_)), ?_⟩⟩
      · simp only [qMd, qEnds, Bool.or_eq_true] at h ⊢
        rcases h with h | h
        · exact Or.inl (Or.inl (Or.inl (Or.inl (Or.inl (Or.inl (Or.inl (Or.inl (Or.inl h))))))))
        · exact Or.inl (Or.inl (Or.inl (Or.inr h)))
      · rw [hy]
        exact i6.fr (p := qSet) ((Fr.rf.up _ rfl).up _ rfl) rfl (fun a i h1 h2 => by simp [qSet]; omega)
noncomputable def mK (P : Pg) (F : Fo) (T : Ts) (nT s : Int) : Nat → List (Int × Int)
  | 0 => []
  | k + 1 => mK P F T nT s k ++ (if P 7 (k : Int) = s then mC P F T nT (k : Int) (chg P (k : Int)).toNat else [])
theorem mK_mono {P : Pg} {F : Fo} {T : Ts} {nT s : Int} {k k' : Nat} (h : k ≤ k') : (mK P F T nT s k).length ≤ (mK P F T nT s k').length := by
  induction k' with
  | zero => have : k = 0 := by omega
            subst this; exact Nat.le_refl _
  | succ m ih =>
    by_cases e : k = m + 1
    · subst e; exact Nat.le_refl _
    · have := ih (by omega)
      show _ ≤ (mK P F T nT s m ++ _).length
      rw [List.length_append]; omega
theorem mK_eq {P : Pg} (hW : WF P) {F : Fo} {T : Ts} {nT s : Int} (hs : isSt P s) : mK P F T nT s (P 2 15).toNat = mN P F T nT s (P 9 s + 1 - s).toNat := by
  have s0 : 0 ≤ s := hs.1
  obtain ⟨f, hE, hlt⟩ := hW.r.2.1 s hs.1 hs.2.1 hs.2.2
  have hle := hE.le
  have own : ∀ k, 0 ≤ k → k < P 2 15 → (P 7 k = s ↔ s ≤ k ∧ k ≤ P 9 s) := by
    intro k k0 k1
    refine ⟨fun h => ?_, fun h => hW.x.2.1 s k hs h.1 h.2⟩
    obtain ⟨-, -, x1, x2, -, -⟩ := hW.x.1 k k0 k1
    rw [h] at x1 x2; exact ⟨x1, x2⟩
  have key : ∀ k : Nat, (k : Int) ≤ P 2 15 → mK P F T nT s k = mN P F T nT s ((if (k : Int) ≤ P 9 s + 1 then (k : Int) else P 9 s + 1) - s).toNat := by
    intro k
    induction k with
    | zero => intro _; rw [if_pos (by omega), show (((0 : Nat) : Int) - s).toNat = 0 by omega]; rfl
    | succ k ih =>
      intro hk
      have h1 := ih (by omega)
      have ho := own k (by omega) (by omega)
      show mK P F T nT s k ++ (if P 7 (k : Int) = s then mC P F T nT (k : Int) (chg P (k : Int)).toNat else []) = _
      rw [h1]
      by_cases e : P 7 (k : Int) = s
      · have := ho.mp e
        rw [if_pos e, if_pos (by omega), if_pos (by omega)]
        rw [show (((k + 1 : Nat) : Int) - s).toNat = ((k : Int) - s).toNat + 1 by omega]
        show _ = mN P F T nT s ((k : Int) - s).toNat ++ mC P F T nT (s + ((((k : Int) - s).toNat : Nat) : Int)) (chg P (s + ((((k : Int) - s).toNat : Nat) : Int))).toNat
        rw [show s + ((((k : Int) - s).toNat : Nat) : Int) = (k : Int) by omega]
      · have hno : ¬ (s ≤ (k : Int) ∧ (k : Int) ≤ P 9 s) := fun z => e (ho.mpr z)
        rw [if_neg e, List.append_nil]
        by_cases q : (k : Int) < s
        · rw [if_pos (by omega), if_pos (by omega), show ((k : Int) - s).toNat = 0 by omega, show (((k + 1 : Nat) : Int) - s).toNat = 0 by omega]
        · by_cases q2 : (k : Int) ≤ P 9 s + 1
          · rw [if_pos q2, if_neg (by omega)]; congr 2; omega
          · rw [if_neg q2, if_neg (by omega)]
  have h := key (P 2 15).toNat (by omega)
  rw [h]
  congr 2
  rw [Int.toNat_of_nonneg (by omega)]
  split <;> omega
def qMds (a i : Nat) : Bool := qMd a i || qRank a i
theorem qMds_rb {P : Pg} {F : Fo} {T : Ts} {nT : Int} {M M' : pm_M} (f : Fr qMds M M') (hB : RB P F T nT M) : RB P F T nT M' := hB.fr f (fun a i a1 a2 => by simp [qMds, qMd, qEnds, qRun, qAsk, qPut, qRank, qSpec, qSc]; omega) ⟨rfl, rfl, rfl, rfl, rfl⟩
theorem st0 {P : Pg} (hW : WF P) (hz : P 2 15 = 0) : P 2 16 = 0 := by
  obtain ⟨hx1, -, ⟨m0, m1, hrk⟩, hst, -⟩ := hW.x
  by_cases e : 0 < P 2 16
  · have := (hst 0 (by decide) e).1
    have a1 := this.1
    have a2 := this.2.1
    omega
  · omega
theorem mL_0 {P : Pg} (hW : WF P) {F : Fo} {T : Ts} {nT : Int} (hz : P 2 15 = 0) : mL P F T nT = [] := by
  unfold mL
  rw [st0 hW hz]
  by_cases ha : allP P F T nT
  · rw [if_pos ha]
  · rw [if_neg ha]; rfl
theorem laysMends_r {P : Pg} {F : Fo} {T : Ts} {nT : Int} (hW : WF P) {M : pm_M} {K : pm_M → Prop} (hB : RB P F T nT M)
    (hq : ∀ M', Fr qMds M M' → RMI P F T nT (mL P F T nT) M' → K M') : k12_laysMends M K := by
  obtain ⟨hx1, -, ⟨m0, m1, hrk⟩, hst, hsz⟩ := hW.x
  have h60 := hW.le
  have hnT := hB.2.2.1.2.1
  apply k12_laysMends_r
  have f1 : Fr qMds M (upI M 142 50 0) := Fr.rf.up _ rfl
  have b1 := qMds_rb f1 hB
  have i0 : RMI P F T nT [] (upI M 142 50 0) := ⟨by rw [gI_eq]; rfl, fun i hi => absurd hi (Nat.not_lt_zero i)⟩
  generalize upI M 142 50 0 = M1 at *
  by_cases hz : P 2 15 = 0
  · apply k12_allPass_r
    rw [b1.1.1, if_pos (by omega), if_neg (by decide)]
    exact hq M1 f1 (by rw [mL_0 hW hz]; exact i0)
  have hp0 : 0 < P 2 15 := by omega
  refine allPass_r (P := P) (F := F) (T := T) (nT := nT) hW.r hW.s hW.t hp0 b1.1 b1.2.1 b1.2.2.1 ?_ ?_
  · intro ha M2 hQ
    have fQ := hQ.fr
    rw [if_neg (by decide)]
    refine hq M2 (f1.trans (fQ.mono (fun a i h => by simp only [qMds, qMd, qEnds, h, Bool.true_or]))) ?_
    have : mL P F T nT = [] := if_pos ha
    rw [this]
    exact i0.fr fQ rfl (fun a i h1 h2 => by simp [qRun]; omega)
  · intro ha M2 hQ
    have fQ := hQ.fr
    rw [if_pos rfl]
    have hmL : mL P F T nT = mS P F T nT (P 2 16).toNat := if_neg ha
    rw [hmL] at hq
    have hlen := mS_len hW (F := F) (T := T) (nT := nT)
    have f2 : Fr qMds M M2 := f1.trans (fQ.mono (fun a i h => by simp only [qMds, qMd, qEnds, h, Bool.true_or]))
    have b2 := qMds_rb f2 hB
    have i2 : RMI P F T nT [] M2 := i0.fr fQ rfl (fun a i h1 h2 => by simp [qRun]; omega)
    refine laysRanked_r hW hp0 (by decide) b2 (fun M3 f3 h3 => ?_)
    have f3' : Fr qMds M M3 := f2.trans (f3.mono (fun a i h => by simp only [qMds, h, Bool.or_true]))
    have b3 := qMds_rb f3' hB
    have i3 : RMI P F T nT [] M3 := i2.fr f3 rfl (fun a i h1 h2 => by simp [qRank, qSpec, qRun, qSc]; omega)
    refine upto (n := P 2 16) (I := fun i M4 => Fr qMd M3 M4 ∧ RMI P F T nT (mS P F T nT i.toNat) M4) (Q := fun i M4 => k12_laysMends_21 (P 2 16) i M4 K) ?_ ?_ 0 M3 (by decide) m0 ⟨Fr.rf, i3⟩
    · intro M4 ⟨f4, i4⟩
      apply k12_laysMends_21_r
      rw [if_neg (by omega)]
      exact hq M4 (f3'.trans (f4.mono (fun a i h => by simp only [qMds, h, Bool.true_or]))) i4
    · intro i M4 q0 q1 ⟨f4, i4⟩ ih
      have ei : ((i.toNat : Nat) : Int) = i := Int.toNat_of_nonneg q0
      have hsx : mS P F T nT (i + 1).toNat = mS P F T nT i.toNat ++ mN P F T nT (rk P F T nT 1 i) (P 9 (rk P F T nT 1 i) + 1 - rk P F T nT 1 i).toNat := by
        rw [show (i + 1).toNat = i.toNat + 1 by omega]
        show _ ++ mN P F T nT (rk P F T nT 1 ((i.toNat : Nat) : Int)) (P 9 (rk P F T nT 1 ((i.toNat : Nat) : Int)) + 1 - rk P F T nT 1 ((i.toNat : Nat) : Int)).toNat = _
        rw [ei]
      have hrs := rk_st hW (F := F) (T := T) (nT := nT) (r := 1) q0 q1
      have hK := mK_eq hW (F := F) (T := T) (nT := nT) hrs
      rw [← hK] at hsx
      have hm1 := mS_mono (P := P) (F := F) (T := T) (nT := nT) (k := (i + 1).toNat) (k' := (P 2 16).toNat) (by omega)
      rw [hsx, List.length_append] at hm1
      apply k12_laysMends_21_r
      rw [if_pos q1]
      refine upto (n := P 2 15) (I := fun k M5 => Fr qMd M3 M5 ∧ RMI P F T nT (mS P F T nT i.toNat ++ mK P F T nT (rk P F T nT 1 i) k.toNat) M5) (Q := fun k M5 => k12_laysMends_28 (P 2 16) i k M5 K) ?_ ?_ 0 M4 (by decide) (by omega) ⟨f4, by rw [show mK P F T nT (rk P F T nT 1 i) (0 : Int).toNat = [] from rfl, List.append_nil]; exact i4⟩
      · intro M5 ⟨f5, i5⟩
        have b5 := qMd_rb f5 b3
        apply k12_laysMends_28_r
        rw [b5.1.1, if_neg (by omega), w32_id (show -2147483648 ≤ i + 1 ∧ i + 1 < 2147483648 by omega)]
        exact ih M5 ⟨f5, by rw [hsx]; exact i5⟩
      · intro k M5 k0 k1 ⟨f5, i5⟩ ihk
        have b5 := qMd_rb f5 b3
        have ek : ((k.toNat : Nat) : Int) = k := Int.toNat_of_nonneg k0
        have hkx : mK P F T nT (rk P F T nT 1 i) (k + 1).toNat = mK P F T nT (rk P F T nT 1 i) k.toNat ++ (if P 7 k = rk P F T nT 1 i then mC P F T nT k (chg P k).toNat else []) := by
          rw [show (k + 1).toNat = k.toNat + 1 by omega]
          show _ ++ (if P 7 ((k.toNat : Nat) : Int) = rk P F T nT 1 i then mC P F T nT ((k.toNat : Nat) : Int) (chg P ((k.toNat : Nat) : Int)).toNat else []) = _
          rw [ek]
        have hm2 := mK_mono (P := P) (F := F) (T := T) (nT := nT) (s := rk P F T nT 1 i) (k := (k + 1).toNat) (k' := (P 2 15).toNat) (by omega)
        have e161 : gI M5 161 i = rk P F T nT 1 i := by rw [f5.g rfl]; exact h3 i q0 q1
        apply k12_laysMends_28_r
        rw [b5.1.1, if_pos k1, w32_id (show -2147483648 ≤ k + 1 ∧ k + 1 < 2147483648 by omega)]
        refine statementOf_r h60 b5.1 hW.x ⟨k0, k1⟩ ?_
        rw [e161]
        refine ⟨⟨q0, by omega⟩, ?_⟩
        by_cases eo : P 7 k = rk P F T nT 1 i
        · rw [if_pos eo] at hkx ⊢
          rw [hkx, List.length_append] at hm2
          refine laysMendsOf_r hW ⟨k0, k1⟩ ?_ b5 i5 (fun M6 f6 i6 => ihk M6 ⟨f5.trans f6, by rw [hkx, ← List.append_assoc]; exact i6⟩)
          rw [List.length_append, List.length_append]; omega
        · rw [if_neg eo] at hkx ⊢
          exact ihk M5 ⟨f5, by rw [hkx, List.append_nil]; exact i5⟩

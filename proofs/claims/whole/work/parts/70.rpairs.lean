-- needs 30 31 32 33a 33b 33c 33d 33e 33f 33g 33h 33i 33j 40 41 42 43 44 45 46 50 51 52 53 54 55 56 57 58 59 60 61 63 64 65 66 67
/-! the reference seeks a pair -/
def put1 (M : pm_M) (n nv nm : Int) : pm_M := upI (upI (upI (upI (upI M 162 1 n) 163 1 (gI M 146 n)) 164 1 (gI M 153 n)) 146 n nv) 153 n nm
theorem rbackS {q : Nat → Nat → Bool} {X M' : pm_M} {n nv nm : Int} {j : Int} (f : Fr q (upI (upI (upI (upI (upI X 162 j n) 163 j (gI X 146 n)) 164 j (gI X 153 n)) 146 n nv) 153 n nm) M') (h1 : ∀ i, q 146 i = false) (h2 : ∀ i, q 153 i = false) (h3 : q 162 j.toNat = false ∧ q 163 j.toNat = false ∧ q 164 j.toNat = false) : gI M' 162 j = n ∧ gI M' 163 j = gI X 146 n ∧ gI M' 164 j = gI X 153 n ∧ Fr (fun a i => q a i || ((a == 162 || a == 163 || a == 164) && i == j.toNat)) X (upI (upI M' 146 n (gI X 146 n)) 153 n (gI X 153 n)) := by
  refine ⟨?_, ?_, ?_, ?_⟩
  · rw [f.g h3.1, gI_ne _ _ _ _ (by decide), gI_ne _ _ _ _ (by decide), gI_ne _ _ _ _ (by decide), gI_ne _ _ _ _ (by decide), gI_eq]
  · rw [f.g h3.2.1, gI_ne _ _ _ _ (by decide), gI_ne _ _ _ _ (by decide), gI_ne _ _ _ _ (by decide), gI_eq]
  · rw [f.g h3.2.2, gI_ne _ _ _ _ (by decide), gI_ne _ _ _ _ (by decide), gI_eq]
  · intro a i z
    simp only [Bool.or_eq_false_iff, Bool.and_eq_false_iff, beq_eq_false_iff_ne] at z
    obtain ⟨z1, z2⟩ := z
    have hf := f a i z1
    show (if a = 153 ∧ i = n.toNat then gI X 153 n else (if a = 146 ∧ i = n.toNat then gI X 146 n else M' a i)) = X a i
    rw [hf]
    show (if a = 153 ∧ i = n.toNat then gI X 153 n else (if a = 146 ∧ i = n.toNat then gI X 146 n else (if a = 153 ∧ i = n.toNat then nm else (if a = 146 ∧ i = n.toNat then nv else (if a = 164 ∧ i = j.toNat then gI X 153 n else (if a = 163 ∧ i = j.toNat then gI X 146 n else (if a = 162 ∧ i = j.toNat then n else X a i))))))) = X a i
    by_cases y1 : a = 153 ∧ i = n.toNat
    · rw [if_pos y1, y1.1, y1.2]; rfl
    · rw [if_neg y1]
      by_cases y2 : a = 146 ∧ i = n.toNat
      · rw [if_pos y2, y2.1, y2.2]; rfl
      · rw [if_neg y2, if_neg y1, if_neg y2, if_neg (fun w => by omega), if_neg (fun w => by omega), if_neg (fun w => by omega)]
theorem put1_rb {P : Pg} {F : Fo} {T : Ts} {nT : Int} {X : pm_M} {n c k d nv nm b : Int} (h60 : P 2 15 ≤ 60) (hB : RB (pch P n c) F T nT X) (hk : 0 ≤ k ∧ k < P 2 15) (hN : NM P k d nv nm b) : RB (pc2 P n c k d) F T nT (put1 X k nv nm) := by
  unfold put1
  have f1 : Fr qPut X (upI (upI (upI X 162 1 k) 163 1 (gI X 146 k)) 164 1 (gI X 153 k)) := ((Fr.rf.up _ rfl).up _ rfl).up _ rfl
  have hB1 := hB.fr f1 (fun a i a1 a2 => by simp [qPut]; omega) ⟨rfl, rfl, rfl, rfl, rfl⟩
  generalize upI (upI (upI X 162 1 k) 163 1 (gI X 146 k)) 164 1 (gI X 153 k) = M1 at *
  obtain ⟨a1, ⟨b1, b2, b3, b4⟩, ⟨c1, c2, c3⟩, d1⟩ := hB1
  obtain ⟨n1, ⟨n2, n3, n4⟩, -⟩ := hN
  refine ⟨rp_set (P := pch P n c) h60 a1 hk n1 n2 n3 n4, ⟨?_, ?_, ?_, b4⟩, ⟨?_, c2, ?_⟩, ?_⟩
  · rw [gI_ne _ _ _ _ (by decide), gI_ne _ _ _ _ (by decide)]; exact b1
  · rw [gI_ne _ _ _ _ (by decide), gI_ne _ _ _ _ (by decide)]; exact b2
  · rw [gI_ne _ _ _ _ (by decide), gI_ne _ _ _ _ (by decide)]; exact b3
  · rw [gI_ne _ _ _ _ (by decide), gI_ne _ _ _ _ (by decide)]; exact c1
  · intro t j t0 t1 j0 j1; rw [gI_ne _ _ _ _ (by decide), gI_ne _ _ _ _ (by decide)]; exact c3 t j t0 t1 j0 j1
  · rw [gI_ne _ _ _ _ (by decide), gI_ne _ _ _ _ (by decide)]; exact d1
noncomputable def cnt (P : Pg) (F : Fo) (T : Ts) (nT k : Int) : Int := @ite Int (Susp P F T nT (P 7 k)) (Classical.propDecidable _) (chg P k) 0
theorem f3_cnt {P : Pg} {F : Fo} {T : Ts} {nT n c k : Int} (h : n < k) : f3 P F T nT n c k = o1 (f4 P F T nT n c k) (cnt P F T nT k).toNat := by
  unfold f3 cnt
  by_cases e : Susp P F T nT (P 7 k)
  · rw [if_pos ⟨h, e⟩, if_pos e]
  · rw [if_neg (fun z => e z.2), if_neg e]; rfl
theorem f4_yes' {P : Pg} {F : Fo} {T : Ts} {nT n c k d : Int} (h : allP (pc2 P n c k d) F T nT) : f4 P F T nT n c k d = some (n, c, k, d) := if_pos h
theorem f4_no' {P : Pg} {F : Fo} {T : Ts} {nT n c k d : Int} (h : ¬ allP (pc2 P n c k d) F T nT) : f4 P F T nT n c k d = none := if_neg h
def qPair (a i : Nat) : Bool := qAsk a i || qRun a i || qPut a i || a == 172 || a == 173
theorem qPair_rb {P : Pg} {F : Fo} {T : Ts} {nT : Int} {M M' : pm_M} (f : Fr qPair M M') (hB : RB P F T nT M) : RB P F T nT M' := hB.fr f (fun a i a1 a2 => by simp [qPair, qRun, qAsk, qPut]; omega) ⟨rfl, rfl, rfl, rfl, rfl⟩
/-- the pair as the reference tells it -/
def RPF (P : Pg) (F : Fo) (T : Ts) (nT : Int) (x : Int × Int × Int × Int) (M : pm_M) : Prop := gI M 172 0 = x.1 ∧ gI M 172 1 = x.2.1 ∧ gI M 172 2 = x.2.2.1 ∧ gI M 172 3 = x.2.2.2 ∧ gI M 172 4 = cn (psB (pc2 P x.1 x.2.1 x.2.2.1 x.2.2.2) F T 1) nT.toNat
theorem findsOther_r {P : Pg} {F : Fo} {T : Ts} {nT : Int} (hW : WF P) {M : pm_M} {K : Int → pm_M → Prop} {n c : Int} (hn : 0 ≤ n ∧ n < P 2 15) (hc : 0 ≤ c ∧ c < chg P n) (hB : RB P F T nT M) (hsu : ∀ k, 0 ≤ k → k < P 2 15 → (gI M 171 k = 0 ∨ gI M 171 k = 1) ∧ (gI M 171 k = 1 ↔ Susp P F T nT (P 7 k)))
    (h0 : f2 P F T nT n c = none → ∀ M', Fr qPair M M' → K 0 M') (h1 : ∀ x, f2 P F T nT n c = some x → ∀ M', Fr qPair M M' → RPF P F T nT x M' → K 1 M') : k12_findsOther n c M K := by
  have h60 := hW.le
  obtain ⟨hg, hc0, hcn⟩ := chg_nch hc
  have hW1 := hW.ch hn ⟨hc0, hcn⟩
  have c8n := chg_le (P := P) (n := n)
  apply k12_findsOther_r
  rw [w32_id (show -2147483648 ≤ n + 1 ∧ n + 1 < 2147483648 by omega)]
  have cnt0 : ∀ k, 0 ≤ k → k < P 2 15 → 0 ≤ cnt P F T nT k ∧ cnt P F T nT k ≤ 8 ∧ (∀ d, 0 ≤ d → d < cnt P F T nT k → d < chg P k) := by
    intro k k0 k1
    have a := chg_nn hW ⟨k0, k1⟩
    have b := chg_le (P := P) (n := k)
    unfold cnt
    by_cases e : Susp P F T nT (P 7 k)
    · rw [if_pos e]; exact ⟨a, b, fun d _ h => h⟩
    · rw [if_neg e]; exact ⟨by decide, by decide, fun d h0 h => by omega⟩
  -- the second changes
  have second : ∀ M2, Fr qPair M M2 → (∀ j, n < j → j < P 2 15 → gI M2 173 j = cnt P F T nT j) → k12_findsOther_48 n c (n + 1) M2 K := by
    intro M2 f2' h173
    refine upto (n := P 2 15) (I := fun k M3 => Fr qPair M M3 ∧ (∀ j, n < j → j < P 2 15 → gI M3 173 j = cnt P F T nT j) ∧ n < k ∧ ∀ j, 0 ≤ j → j < k → f3 P F T nT n c j = none) (Q := fun k M3 => k12_findsOther_48 n c k M3 K) ?_ ?_ (n + 1) M2 (by omega) (by omega) ⟨f2', h173, by omega, fun j j0 j1 => if_neg (fun z => by omega)⟩
    · intro M3 ⟨f3', g3, _, h3⟩
      apply k12_findsOther_48_r
      rw [(qPair_rb f3' hB).1.1, if_neg (by omega)]
      exact h0 ((o1_none _).mpr (fun i i0 i1 => h3 i i0 (by omega))) M3 f3'
    · intro k M3 k0 k1 ⟨f3', g3, hnk, h3⟩ ih
      have hk : 0 ≤ k ∧ k < P 2 15 := ⟨k0, k1⟩
      have hne : k ≠ n := by omega
      apply k12_findsOther_48_r
      rw [(qPair_rb f3' hB).1.1, if_pos k1]
      obtain ⟨ct0, ct8, ctc⟩ := cnt0 k k0 k1
      refine upto (n := cnt P F T nT k) (I := fun d M4 => Fr qPair M M4 ∧ (∀ j, n < j → j < P 2 15 → gI M4 173 j = cnt P F T nT j) ∧ ∀ e, 0 ≤ e → e < d → f4 P F T nT n c k e = none) (Q := fun d M4 => k12_findsOther_61 n c k d M4 K) ?_ ?_ 0 M3 (by decide) ct0 ⟨f3', g3, fun e e0 e1 => by omega⟩
      · intro M4 ⟨f4', g4, h4⟩
        apply k12_findsOther_61_r
        rw [g4 k hnk k1, if_neg (by omega), w32_id (show -2147483648 ≤ k + 1 ∧ k + 1 < 2147483648 by omega)]
        refine ⟨⟨k0, by omega⟩, ih M4 ⟨f4', g4, by omega, fun j j0 j1 => ?_⟩⟩
        by_cases e : j = k
        · subst e
          rw [f3_cnt hnk]; exact (o1_none _).mpr (fun i i0 i1 => h4 i i0 (by omega))
        · exact h3 j j0 (by omega)
      · intro d M4 d0 d1 ⟨f4', g4, h4⟩ ihd
        have hdk := ctc d d0 d1
        obtain ⟨hgk, hd0, hdn⟩ := chg_nch ⟨d0, hdk⟩
        have hW2 := hW.ch2 hn ⟨hc0, hcn⟩ hk hne ⟨hd0, hdn⟩
        have b4 := qPair_rb f4' hB
        apply k12_findsOther_61_r
        rw [g4 k hnk k1, if_pos d1, w32_id (show -2147483648 ≤ d + 1 ∧ d + 1 < 2147483648 by omega)]
        refine ⟨⟨k0, by omega⟩, ?_⟩
        refine asks_r hW b4.1 b4.2.2.2 hk (by omega) (fun z => absurd ⟨d0, hdk⟩ z) (fun _ _ M5 f5' hN5 => ?_)
        have f45 : Fr qPair M M5 := f4'.trans (f5'.mono (fun a i h => by simp only [qPair, h, Bool.true_or]))
        have b5 := qPair_rb f45 hB
        refine asks_r hW b5.1 b5.2.2.2 hn (by omega) (fun z => absurd hc z) (fun _ _ M6 f6' hN6 => ?_)
        have f46 : Fr qPair M M6 := f45.trans (f6'.mono (fun a i h => by simp only [qPair, h, Bool.true_or]))
        have b6 := qPair_rb f46 hB
        refine ⟨⟨hn.1, by omega⟩, ⟨hn.1, by omega⟩, ?_⟩
        have b7 := put0_rb h60 b6 hn hN6
        have e146 : gI (upI (upI (upI (upI M6 162 0 n) 163 0 (gI M6 146 n)) 164 0 (gI M6 153 n)) 146 n (gI M6 142 45)) 146 k = gI (put0 M6 n (gI M6 142 45) (gI M6 142 46)) 146 k := by
          unfold put0; rw [gI_ne _ _ _ _ (show (146 : Nat) ≠ 153 by decide)]
        rw [e146]
        have b8 := put1_rb (X := put0 M6 n (gI M6 142 45) (gI M6 142 46)) h60 b7 hk hN5
        generalize hnv : gI M6 142 45 = nv at *
        generalize hnm : gI M6 142 46 = nm at *
        generalize gI M5 142 45 = nv' at *
        generalize gI M5 142 46 = nm' at *
        -- both taken out again
        have back : ∀ (q : Nat → Nat → Bool) M9, Fr q (put1 (put0 M6 n nv nm) k nv' nm') M9 → (∀ a i, a = 146 ∨ a = 153 ∨ a = 162 ∨ a = 163 ∨ a = 164 → q a i = false) → (∀ a i, q a i = true → qPair a i = true) → gI M9 162 1 = k ∧ gI M9 163 1 = gI (put0 M6 n nv nm) 146 k ∧ gI M9 164 1 = gI (put0 M6 n nv nm) 153 k ∧ gI M9 162 0 = n ∧ gI M9 163 0 = gI M6 146 n ∧ gI M9 164 0 = gI M6 153 n ∧ Fr qPair M (upI (upI (upI (upI M9 146 k (gI (put0 M6 n nv nm) 146 k)) 153 k (gI (put0 M6 n nv nm) 153 k)) 146 n (gI M6 146 n)) 153 n (gI M6 153 n)) := by
          intro q M9 f9 hq1 hq2
          obtain ⟨r1, r2, r3, r4⟩ := rbackS (X := put0 M6 n nv nm) (j := 1) f9 (fun i => hq1 _ _ (by simp)) (fun i => hq1 _ _ (by simp)) ⟨hq1 _ _ (by simp), hq1 _ _ (by simp), hq1 _ _ (by simp)⟩
          obtain ⟨s1, s2, s3, s4⟩ := rbackS (X := M6) (j := 0) r4 (fun i => by simp [hq1 146 i (by simp)]) (fun i => by simp [hq1 153 i (by simp)]) ⟨by simp [hq1 162 _ (by simp)], by simp [hq1 163 _ (by simp)], by simp [hq1 164 _ (by simp)]⟩
          rw [gI_ne _ _ _ _ (by decide), gI_ne _ _ _ _ (by decide)] at s1 s2 s3
          refine ⟨r1, r2, r3, s1, s2, s3, f46.trans (s4.mono (fun a i h => ?_))⟩
          simp only [Bool.or_eq_true, Bool.and_eq_true, beq_iff_eq] at h
          rcases h with (h | h) | h
          · exact hq2 a i h
          · simp only [qPair, qPut, Bool.or_eq_true, beq_iff_eq]; exact Or.inl (Or.inl (Or.inr h.1))
          · simp only [qPair, qPut, Bool.or_eq_true, beq_iff_eq]; exact Or.inl (Or.inl (Or.inr h.1))
        refine allPass_r (P := pc2 P n c k d) (F := F) (T := T) (nT := nT) hW2.r hW2.s hW2.t (show 0 < P 2 15 by omega) b8.1 b8.2.1 b8.2.2.1 ?_ ?_
        · intro ha M9 hQ
          have fQ := hQ.fr
          rw [if_neg (by decide)]
          have b9 : RB (pc2 P n c k d) F T nT M9 := b8.fr fQ (fun a i a1 a2 => by simp [qRun]; omega) ⟨rfl, rfl, rfl, rfl, rfl⟩
          refine manyPass_r (P := pc2 P n c k d) (F := F) (T := T) (nT := nT) hW2.r hW2.s hW2.t (show 0 < P 2 15 by omega) (Or.inr rfl) b9.1 b9.2.1 b9.2.2.1 (fun M10 hQ' => ?_)
          have f10 : Fr (fun a i => qRun a i || a == 172) (put1 (put0 M6 n nv nm) k nv' nm') (upI M10 172 4 (cn (psB (pc2 P n c k d) F T 1) nT.toNat)) := ((fQ.trans hQ'.fr).mono (fun a i h => by simp only [h, Bool.true_or])).up _ (by simp)
          obtain ⟨r1, r2, r3, r4, r5, r6, r7⟩ := back _ _ f10 (fun a i h => by simp [qRun]; omega) (fun a i h => by
            simp only [qPair, Bool.or_eq_true] at h ⊢
            rcases h with h | h
            · exact Or.inl (Or.inl (Or.inl (Or.inr h)))
            · exact Or.inl (Or.inr h))
          rw [gI_ne _ _ _ _ (by decide)] at r1 r2 r3 r4 r5 r6
          rw [r1, r2, r3, r4, r5, r6]
          refine ⟨⟨by omega, by omega⟩, ⟨by omega, by omega⟩, ⟨by omega, by omega⟩, ⟨by omega, by omega⟩, ?_⟩
          have e3 : f3 P F T nT n c k = some (n, c, k, d) := by
            rw [f3_cnt hnk]
            exact o1_some _ d d0 (by omega) (fun j j0 j1 => h4 j j0 j1) (f4_yes' ha)
          have e2 : f2 P F T nT n c = some (n, c, k, d) := o1_some _ k k0 (by omega) (fun j j0 j1 => h3 j j0 j1) e3
          refine h1 _ e2 _ ((((r7.up _ rfl).up _ rfl).up _ rfl).up _ rfl) ⟨?_, ?_, ?_, ?_, ?_⟩
          · rw [gI_nf _ _ (by decide), gI_nf _ _ (by decide), gI_nf _ _ (by decide), gI_eq]
          · rw [gI_nf _ _ (by decide), gI_nf _ _ (by decide), gI_eq]
          · rw [gI_nf _ _ (by decide), gI_eq]
          · rw [gI_eq]
          · rw [gI_nf _ _ (by decide), gI_nf _ _ (by decide), gI_nf _ _ (by decide), gI_nf _ _ (by decide), gI_ne _ _ _ _ (by decide), gI_ne _ _ _ _ (by decide), gI_ne _ _ _ _ (by decide), gI_ne _ _ _ _ (by decide), gI_eq]
        · intro ha M9 hQ
          have fQ := hQ.fr
          rw [if_pos rfl]
          have f10 : Fr (fun a i => qRun a i || a == 172) (put1 (put0 M6 n nv nm) k nv' nm') (upI M9 172 4 0) := (fQ.mono (fun a i h => by simp only [h, Bool.true_or])).up _ (by simp)
          obtain ⟨r1, r2, r3, r4, r5, r6, r7⟩ := back _ _ f10 (fun a i h => by simp [qRun]; omega) (fun a i h => by
            simp only [qPair, Bool.or_eq_true] at h ⊢
            rcases h with h | h
            · exact Or.inl (Or.inl (Or.inl (Or.inr h)))
            · exact Or.inl (Or.inr h))
          rw [gI_ne _ _ _ _ (by decide)] at r1 r2 r3 r4 r5 r6
          rw [r1, r2, r3, r4, r5, r6]
          refine ⟨⟨by omega, by omega⟩, ⟨by omega, by omega⟩, ⟨by omega, by omega⟩, ⟨by omega, by omega⟩, ihd _ ⟨r7, fun j j0 j1 => ?_, fun e e0 e1 => ?_⟩⟩
          · rw [gI_ne _ _ _ _ (by decide), gI_ne _ _ _ _ (by decide), gI_ne _ _ _ _ (by decide), gI_ne _ _ _ _ (by decide), f10.g rfl]
            unfold put1 put0
            rw [gI_ne _ _ _ _ (by decide), gI_ne _ _ _ _ (by decide), gI_ne _ _ _ _ (by decide), gI_ne _ _ _ _ (by decide), gI_ne _ _ _ _ (by decide), gI_ne _ _ _ _ (by decide), gI_ne _ _ _ _ (by decide), gI_ne _ _ _ _ (by decide), gI_ne _ _ _ _ (by decide), gI_ne _ _ _ _ (by decide), f6'.g rfl, f5'.g rfl]
            exact g4 j j0 j1
          · by_cases w : e = d
            · subst w; exact f4_no' ha
            · exact h4 e e0 (by omega)
  -- how many changes each has
  refine upto (n := P 2 15) (I := fun k M2 => Fr qPair M M2 ∧ n < k ∧ ∀ j, n < j → j < k → gI M2 173 j = cnt P F T nT j) (Q := fun k M2 => k12_findsOther_4 n c k M2 K) ?_ ?_ (n + 1) M (by omega) (by omega) ⟨Fr.rf, by omega, fun j j0 j1 => by omega⟩
  · intro M2 ⟨f2', _, h2⟩
    apply k12_findsOther_4_r
    rw [(qPair_rb f2' hB).1.1, if_neg (by omega), w32_id (show -2147483648 ≤ n + 1 ∧ n + 1 < 2147483648 by omega)]
    exact second M2 f2' h2
  · intro k M2 k0 k1 ⟨f2', hnk, h2⟩ ih
    have b2 := qPair_rb f2' hB
    obtain ⟨u1, u2⟩ := hsu k k0 k1
    apply k12_findsOther_4_r
    rw [b2.1.1, if_pos k1, w32_id (show -2147483648 ≤ k + 1 ∧ k + 1 < 2147483648 by omega), f2'.g rfl]
    refine ⟨⟨k0, by omega⟩, ?_⟩
    have put : ∀ M3 v, Fr qPair M M3 → (∀ j, gI M3 173 j = gI M2 173 j) → v = cnt P F T nT k → k12_findsOther_4 n c (k + 1) (upI M3 173 k v) K := by
      intro M3 v f3' o3 hv
      refine ih _ ⟨f3'.up _ rfl, by omega, fun j j0 j1 => ?_⟩
      rw [gI_up _ _ k0 (by omega)]
      by_cases e : j = k
      · rw [if_pos e, e]; exact hv
      · rw [if_neg e, o3]; exact h2 j j0 (by omega)
    by_cases z : gI M 171 k = 0
    · rw [if_pos z]
      refine put M2 0 f2' (fun _ => rfl) ?_
      have : ¬ Susp P F T nT (P 7 k) := fun y => by have := u2.mpr y; omega
      exact (if_neg this).symm
    · rw [if_neg z]
      refine changesOf_r hW b2.1 b2.2.2.2 ⟨k0, k1⟩ (fun M3 f3' => ?_)
      refine put M3 _ (f2'.trans (f3'.mono (fun a i h => by simp only [qPair, h, Bool.true_or]))) (fun j => f3'.g rfl) ?_
      have : Susp P F T nT (P 7 k) := u2.mp (by omega)
      exact (if_pos this).symm
def qPrs (a i : Nat) : Bool := qPair a i || qMds a i || a == 171
theorem qPrs_rb {P : Pg} {F : Fo} {T : Ts} {nT : Int} {M M' : pm_M} (f : Fr qPrs M M') (hB : RB P F T nT M) : RB P F T nT M' := hB.fr f (fun a i a1 a2 => by simp [qPrs, qPair, qMds, qMd, qEnds, qRun, qAsk, qPut, qRank, qSpec, qSc]; omega) ⟨rfl, rfl, rfl, rfl, rfl⟩
theorem findsPair_r {P : Pg} {F : Fo} {T : Ts} {nT : Int} (hW : WF P) {M : pm_M} {K : Int → pm_M → Prop} (hB : RB P F T nT M)
    (h0 : prP P F T nT = none → ∀ M', Fr qPrs M M' → K 0 M') (h1 : ∀ x, prP P F T nT = some x → ∀ M', Fr qPrs M M' → RPF P F T nT x M' → K 1 M') : k12_findsPair M K := by
  obtain ⟨hx1, -, ⟨m0, m1, hrk⟩, hst, hsz⟩ := hW.x
  have h60 := hW.le
  have toP : ∀ a i, qPair a i = true → qPrs a i = true := fun a i h => by simp only [qPrs, h, Bool.true_or]
  have toM : ∀ a i, qMds a i = true → qPrs a i = true := fun a i h => by simp only [qPrs, h, Bool.or_true, Bool.true_or]
  have runM : ∀ a i, qRun a i = true → qPrs a i = true := fun a i h => toM a i (by simp only [qMds, qMd, qEnds, h, Bool.true_or])
  have rankM : ∀ a i, qRank a i = true → qPrs a i = true := fun a i h => toM a i (by simp only [qMds, h, Bool.or_true])
  apply k12_findsPair_r
  refine laysMends_r hW hB (fun M1 f1' i1 => ?_)
  have g1 : Fr qPrs M M1 := f1'.mono toM
  have b1 := qPrs_rb g1 hB
  rw [i1.1]
  by_cases hl : mL P F T nT = []
  case neg =>
    have : 0 < (mL P F T nT).length := List.length_pos_iff.mpr hl
    rw [if_neg (by omega)]
    exact h0 (if_pos (Or.inr hl)) M1 g1
  rw [hl]
  rw [if_pos (show (([] : List (Int × Int)).length : Int) ≤ 0 by decide)]
  by_cases hz : P 2 15 = 0
  · apply k12_allPass_r
    rw [b1.1.1, if_pos (by omega), if_neg (by decide)]
    exact h0 (prP_0 hz) M1 g1
  have hp0 : 0 < P 2 15 := by omega
  refine allPass_r (P := P) (F := F) (T := T) (nT := nT) hW.r hW.s hW.t hp0 b1.1 b1.2.1 b1.2.2.1 ?_ ?_
  · intro ha M2 hQ
    rw [if_neg (by decide)]
    exact h0 (if_pos (Or.inl ha)) M2 (g1.trans (hQ.fr.mono runM))
  intro ha M2 hQ
  rw [if_pos rfl]
  have hpr : prP P F T nT = f0 P F T nT := if_neg (fun y => y.elim ha (fun w => w hl))
  rw [hpr] at h0 h1
  have g2 : Fr qPrs M M2 := g1.trans (hQ.fr.mono runM)
  have b2 := qPrs_rb g2 hB
  refine laysRanked_r hW hp0 (by decide) b2 (fun M3 f3' h161 => ?_)
  have g3 : Fr qPrs M M3 := g2.trans (f3'.mono rankM)
  have b3 := qPrs_rb g3 hB
  -- the pairs, the suspects known
  have pairs : ∀ M4, Fr qPrs M M4 → (∀ k, 0 ≤ k → k < P 2 15 → (gI M4 171 k = 0 ∨ gI M4 171 k = 1) ∧ (gI M4 171 k = 1 ↔ Susp P F T nT (P 7 k))) → k12_findsPair_106 0 M4 K := by
    intro M4 g4 hsu
    have b4 := qPrs_rb g4 hB
    refine upto (n := P 2 15) (I := fun n M5 => Fr qPair M4 M5 ∧ ∀ e, 0 ≤ e → e < n → f1 P F T nT e = none) (Q := fun n M5 => k12_findsPair_106 n M5 K) ?_ ?_ 0 M4 (by decide) hsz ⟨Fr.rf, fun e e0 e1 => by omega⟩
    · intro M5 ⟨f5', h5⟩
      apply k12_findsPair_106_r
      rw [(qPair_rb f5' b4).1.1, if_neg (by omega)]
      exact h0 ((o1_none _).mpr (fun i i0 i1 => h5 i i0 (by omega))) M5 (g4.trans (f5'.mono toP))
    · intro n M5 n0 n1 ⟨f5', h5⟩ ih
      have b5 := qPair_rb f5' b4
      obtain ⟨u1, u2⟩ := hsu n n0 n1
      have wn : w32 (n + 1) = n + 1 := w32_id (by omega)
      have next : f1 P F T nT n = none → ∀ M6, Fr qPair M4 M6 → k12_findsPair_106 (n + 1) M6 K := by
        intro h1' M6 f6'
        refine ih M6 ⟨f6', fun e e0 e1 => ?_⟩
        by_cases w : e = n
        · subst w; exact h1'
        · exact h5 e e0 (by omega)
      apply k12_findsPair_106_r
      rw [b5.1.1, if_pos n1, f5'.g rfl, wn]
      refine ⟨⟨n0, by omega⟩, ?_⟩
      by_cases z : gI M4 171 n = 0
      · rw [if_pos z]
        exact next (if_neg (fun y => by have := u2.mpr y; omega)) M5 f5'
      rw [if_neg z]
      have hsp : Susp P F T nT (P 7 n) := u2.mp (by omega)
      have hf1 : f1 P F T nT n = o1 (f2 P F T nT n) (chg P n).toNat := if_pos hsp
      have c8 := chg_le (P := P) (n := n)
      have c0 := chg_nn hW ⟨n0, n1⟩
      refine changesOf_r hW b5.1 b5.2.2.2 ⟨n0, n1⟩ (fun M6 f6' => ?_)
      have f46 : Fr qPair M4 M6 := f5'.trans (f6'.mono (fun a i h => by simp only [qPair, h, Bool.true_or]))
      refine upto (n := chg P n) (I := fun c M7 => Fr qPair M4 M7 ∧ ∀ e, 0 ≤ e → e < c → f2 P F T nT n e = none) (Q := fun c M7 => k12_findsPair_134 n (chg P n) c M7 K) ?_ ?_ 0 M6 (by decide) c0 ⟨f46, fun e e0 e1 => by omega⟩
      · intro M7 ⟨f7', h7⟩
        apply k12_findsPair_134_r
        rw [if_neg (by omega), wn]
        refine next ?_ M7 f7'
        rw [hf1]; exact (o1_none _).mpr (fun i i0 i1 => h7 i i0 (by omega))
      · intro c M7 k0 k1 ⟨f7', h7⟩ ihc
        have b7 := qPair_rb f7' b4
        apply k12_findsPair_134_r
        rw [if_pos k1, w32_id (show -2147483648 ≤ c + 1 ∧ c + 1 < 2147483648 by omega)]
        refine findsOther_r hW ⟨n0, n1⟩ ⟨k0, k1⟩ b7 (fun k q0 q1 => by rw [f7'.g rfl]; exact hsu k q0 q1) ?_ ?_
        · intro e M8 f8'
          rw [if_pos rfl]
          refine ihc M8 ⟨f7'.trans f8', fun j j0 j1 => ?_⟩
          by_cases w : j = c
          · subst w; exact e
          · exact h7 j j0 (by omega)
        · intro x e M8 f8' hP8
          rw [if_neg (by decide)]
          have e1 : f1 P F T nT n = some x := by rw [hf1]; exact o1_some _ c k0 (by omega) (fun j j0 j1 => h7 j j0 j1) e
          have e0 : f0 P F T nT = some x := o1_some _ n n0 (by omega) (fun j j0 j1 => h5 j j0 j1) e1
          exact h1 x e0 M8 (g4.trans ((f7'.trans f8').mono toP)) hP8
  -- the suspects
  obtain ⟨m, hm'⟩ : ∃ m : Int, m = if 6 ≤ P 2 16 then 6 else P 2 16 := ⟨_, rfl⟩
  have hm6 : m ≤ 6 ∧ m ≤ P 2 16 ∧ 0 ≤ m ∧ (m = 6 ∨ m = P 2 16) := by rw [hm']; split <;> omega
  refine upto (n := P 2 15) (I := fun k M4 => Fr (fun a _ => a == 171) M3 M4 ∧ ∀ j, 0 ≤ j → j < k → (gI M4 171 j = 0 ∨ gI M4 171 j = 1) ∧ (gI M4 171 j = 1 ↔ Susp P F T nT (P 7 j))) (Q := fun k M4 => k12_findsPair_28 (P 2 16) k M4 K) ?_ ?_ 0 M3 (by decide) hsz ⟨Fr.rf, fun j j0 j1 => by omega⟩
  · intro M4 ⟨f4', h4⟩
    have g4 : Fr qPrs M M4 := g3.trans (f4'.mono (fun a i h => by simp only [qPrs, h, Bool.or_true]))
    apply k12_findsPair_28_r
    rw [(qPrs_rb g4 hB).1.1, if_neg (by omega)]
    exact pairs M4 g4 h4
  · intro k M4 k0 k1 ⟨f4', h4⟩ ih
    have g4 : Fr qPrs M M4 := g3.trans (f4'.mono (fun a i h => by simp only [qPrs, h, Bool.or_true]))
    apply k12_findsPair_28_r
    rw [(qPrs_rb g4 hB).1.1, if_pos k1]
    refine ⟨⟨k0, by omega⟩, ?_⟩
    have wk : w32 (k + 1) = k + 1 := w32_id (by omega)
    refine upto (n := m) (I := fun i M5 => Fr (fun a _ => a == 171) M3 M5 ∧ (∀ j, 0 ≤ j → j ≠ k → gI M5 171 j = gI M4 171 j) ∧ (gI M5 171 k = 0 ∨ gI M5 171 k = 1) ∧ (gI M5 171 k = 1 ↔ ∃ j, 0 ≤ j ∧ j < i ∧ rk P F T nT 1 j = P 7 k)) (Q := fun i M5 => k12_findsPair_47 (P 2 16) k i M5 K) ?_ ?_ 0 _ (by decide) hm6.2.2.1 ⟨f4'.up _ rfl, fun j j0 jk => gI_nf _ _ (by omega), by rw [gI_eq]; exact Or.inl rfl, by rw [gI_eq]; exact ⟨fun z => absurd z (by decide), fun ⟨j, j0, j1, _⟩ => by omega⟩⟩
    · intro M5 ⟨f5', o5, z5, e5⟩
      have hh := ih M5 ⟨f5', fun j j0 j1 => by
        by_cases w : j = k
        · subst w
          refine ⟨z5, e5.trans ⟨fun ⟨i, i0, i1, e⟩ => ⟨i, i0, by omega, by omega, e⟩, fun ⟨i, i0, i1, i2, e⟩ => ⟨i, i0, by omega, e⟩⟩⟩
        · rw [o5 j j0 w]; exact h4 j j0 (by omega)⟩
      apply k12_findsPair_47_r
      rw [wk]
      by_cases y : m < P 2 16
      · rw [if_pos y, if_neg (by omega)]; exact hh
      · rw [if_neg y]; exact hh
    · intro i M5 i0 i1 ⟨f5', o5, z5, e5⟩ ihi
      have g5 : Fr qPrs M M5 := g3.trans (f5'.mono (fun a i h => by simp only [qPrs, h, Bool.or_true]))
      have b5 := qPrs_rb g5 hB
      apply k12_findsPair_47_r
      rw [if_pos (by omega), if_pos (by omega), w32_id (show -2147483648 ≤ i + 1 ∧ i + 1 < 2147483648 by omega)]
      refine ⟨⟨k0, by omega⟩, ?_⟩
      have put : ∀ v, (v = 0 ∨ v = 1) → (v = 1 ↔ ∃ j, 0 ≤ j ∧ j < i + 1 ∧ rk P F T nT 1 j = P 7 k) → k12_findsPair_47 (P 2 16) k (i + 1) (upI M5 171 k v) K := by
        intro v hv hv1
        exact ihi _ ⟨f5'.up _ rfl, fun j j0 jk => by rw [gI_nf _ _ (by omega)]; exact o5 j j0 jk, by rw [gI_eq]; exact hv, by rw [gI_eq]; exact hv1⟩
      by_cases z : gI M5 171 k = 0
      · rw [if_pos z]
        have hno : ¬ ∃ j, 0 ≤ j ∧ j < i ∧ rk P F T nT 1 j = P 7 k := fun y => by have := e5.mpr y; omega
        refine statementOf_r h60 b5.1 hW.x ⟨k0, k1⟩ ?_
        have e161 : gI M5 161 i = rk P F T nT 1 i := by rw [f5'.g rfl]; exact h161 i i0 (by omega)
        rw [e161]
        refine ⟨⟨i0, by omega⟩, ?_⟩
        by_cases e : P 7 k = rk P F T nT 1 i
        · rw [if_pos e]
          exact put 1 (Or.inr rfl) ⟨fun _ => ⟨i, i0, by omega, e.symm⟩, fun _ => rfl⟩
        · rw [if_neg e]
          refine put 0 (Or.inl rfl) ⟨fun y => absurd y (by decide), fun ⟨j, j0, j1, ej⟩ => ?_⟩
          by_cases w : j = i
          · subst w; exact absurd ej.symm e
          · exact absurd ⟨j, j0, by omega, ej⟩ hno
      · rw [if_neg z]
        obtain ⟨j, j0, j1, ej⟩ := e5.mp (by omega)
        exact put 1 (Or.inr rfl) ⟨fun _ => ⟨j, j0, by omega, ej⟩, fun _ => rfl⟩

-- needs 30 31 32 33a 33b 33c 33d 33e 33f 33g 33h 33i 33j 40 41 42 43 44 45 46 50 51 52 53 54 55 56 57 58 59 60 61
/-! the reference finds the mends -/
def RMI (P : Pg) (F : Fo) (T : Ts) (nT : Int) (acc : List (Int × Int)) (M : pm_M) : Prop := gI M 142 50 = (acc.length : Int) ∧ ∀ i : Nat, i < acc.length → gI M 165 (i : Int) = (acc.getD i (0, 0)).1 ∧ gI M 166 (i : Int) = (acc.getD i (0, 0)).2 ∧ gI M 167 (i : Int) = hcn P F T nT (acc.getD i (0, 0)) ∧ gI M 168 (i : Int) = (fal P F T nT acc i : Int) ∧ ∀ t, 0 ≤ t → t < nT → gI M 169 (16 * (i : Int) + t) = (runP (pch P (acc.getD i (0, 0)).1 (acc.getD i (0, 0)).2) F (T t)).2.2.1 ∧ gI M 170 (16 * (i : Int) + t) = (runP (pch P (acc.getD i (0, 0)).1 (acc.getD i (0, 0)).2) F (T t)).2.2.2.1
theorem RMI.fr {P : Pg} {F : Fo} {T : Ts} {nT : Int} {acc : List (Int × Int)} {M M' : pm_M} {p : Nat → Nat → Bool} (h : RMI P F T nT acc M) (f : Fr p M M') (h0 : p 142 50 = false) (h1 : ∀ a i, 165 ≤ a → a ≤ 170 → p a i = false) : RMI P F T nT acc M' := by
  unfold RMI
  rw [f.g h0, f.c (fun i => h1 165 i (by decide) (by decide)), f.c (fun i => h1 166 i (by decide) (by decide)), f.c (fun i => h1 167 i (by decide) (by decide)), f.c (fun i => h1 168 i (by decide) (by decide)), f.c (fun i => h1 169 i (by decide) (by decide)), f.c (fun i => h1 170 i (by decide) (by decide))]
  exact h
def qPut (a _i : Nat) : Bool := a == 162 || a == 163 || a == 164
def put0 (M : pm_M) (n nv nm : Int) : pm_M := upI (upI (upI (upI (upI M 162 0 n) 163 0 (gI M 146 n)) 164 0 (gI M 153 n)) 146 n nv) 153 n nm
theorem put0_rb {P : Pg} {F : Fo} {T : Ts} {nT : Int} {M : pm_M} {n c b : Int} (h60 : P 2 15 ≤ 60) (hB : RB P F T nT M) (hn : 0 ≤ n ∧ n < P 2 15) (hN : NM P n c (gI M 142 45) (gI M 142 46) b) : RB (pch P n c) F T nT (put0 M n (gI M 142 45) (gI M 142 46)) := by
  unfold put0
  have f1 : Fr qPut M (upI (upI (upI M 162 0 n) 163 0 (gI M 146 n)) 164 0 (gI M 153 n)) := ((Fr.rf.up _ rfl).up _ rfl).up _ rfl
  have hB1 := hB.fr f1 (fun a i a1 a2 => by simp [qPut]; omega) ⟨rfl, rfl, rfl, rfl, rfl⟩
  generalize upI (upI (upI M 162 0 n) 163 0 (gI M 146 n)) 164 0 (gI M 153 n) = M1 at *
  obtain ⟨a1, ⟨b1, b2, b3, b4⟩, ⟨c1, c2, c3⟩, d1⟩ := hB1
  obtain ⟨n1, ⟨n2, n3, n4⟩, -⟩ := hN
  refine ⟨rp_set h60 a1 hn n1 n2 n3 n4, ⟨?_, ?_, ?_, b4⟩, ⟨?_, c2, ?_⟩, ?_⟩
  · rw [gI_ne _ _ _ _ (by decide), gI_ne _ _ _ _ (by decide)]; exact b1
  · rw [gI_ne _ _ _ _ (by decide), gI_ne _ _ _ _ (by decide)]; exact b2
  · rw [gI_ne _ _ _ _ (by decide), gI_ne _ _ _ _ (by decide)]; exact b3
  · rw [gI_ne _ _ _ _ (by decide), gI_ne _ _ _ _ (by decide)]; exact c1
  · intro t j t0 t1 j0 j1; rw [gI_ne _ _ _ _ (by decide), gI_ne _ _ _ _ (by decide)]; exact c3 t j t0 t1 j0 j1
  · rw [gI_ne _ _ _ _ (by decide), gI_ne _ _ _ _ (by decide)]; exact d1
theorem rback {q : Nat → Nat → Bool} {M M' : pm_M} {n nv nm : Int} (f : Fr q (put0 M n nv nm) M') (hq : ∀ a i, a = 146 ∨ a = 153 ∨ a = 162 ∨ a = 163 ∨ a = 164 → q a i = false) : gI M' 162 0 = n ∧ gI M' 163 0 = gI M 146 n ∧ gI M' 164 0 = gI M 153 n ∧ Fr (fun a i => q a i || qPut a i) M (upI (upI M' 146 n (gI M 146 n)) 153 n (gI M 153 n)) := by
  refine ⟨?_, ?_, ?_, ?_⟩
  · rw [f.g (hq _ _ (by simp))]; unfold put0
    rw [gI_ne _ _ _ _ (by decide), gI_ne _ _ _ _ (by decide), gI_ne _ _ _ _ (by decide), gI_ne _ _ _ _ (by decide), gI_eq]
  · rw [f.g (hq _ _ (by simp))]; unfold put0
    rw [gI_ne _ _ _ _ (by decide), gI_ne _ _ _ _ (by decide), gI_ne _ _ _ _ (by decide), gI_eq]
  · rw [f.g (hq _ _ (by simp))]; unfold put0
    rw [gI_ne _ _ _ _ (by decide), gI_ne _ _ _ _ (by decide), gI_eq]
  · intro a i z
    simp only [Bool.or_eq_false_iff, qPut, beq_eq_false_iff_ne] at z
    obtain ⟨z1, ⟨z2, z3⟩, z4⟩ := z
    have hf := f a i z1
    show (if a = 153 ∧ i = n.toNat then gI M 153 n else (if a = 146 ∧ i = n.toNat then gI M 146 n else M' a i)) = M a i
    rw [hf]
    show (if a = 153 ∧ i = n.toNat then gI M 153 n else (if a = 146 ∧ i = n.toNat then gI M 146 n else (if a = 153 ∧ i = n.toNat then nm else (if a = 146 ∧ i = n.toNat then nv else (if a = 164 ∧ i = (0 : Int).toNat then gI M 153 n else (if a = 163 ∧ i = (0 : Int).toNat then gI M 146 n else (if a = 162 ∧ i = (0 : Int).toNat then n else M a i))))))) = M a i
    by_cases y1 : a = 153 ∧ i = n.toNat
    · rw [if_pos y1, y1.1, y1.2]; rfl
    · rw [if_neg y1]
      by_cases y2 : a = 146 ∧ i = n.toNat
      · rw [if_pos y2, y2.1, y2.2]; rfl
      · rw [if_neg y2, if_neg y1, if_neg y2, if_neg (fun w => z4 w.1), if_neg (fun w => z3 w.1), if_neg (fun w => z2 w.1)]
def qEnds (a i : Nat) : Bool := qRun a i || a == 167 || a == 168 || a == 169 || a == 170
theorem w16' {i t : Int} (i0 : 0 ≤ i) (i1 : i < 1000) (t0 : 0 ≤ t) (t1 : t < 16) : w32 (w32 (16 * i) + t) = 16 * i + t := by
  rw [w32_id (show -2147483648 ≤ 16 * i ∧ 16 * i < 2147483648 by omega), w32_id (by omega)]
theorem areAlike_r {P : Pg} {F : Fo} {T : Ts} {nT : Int} {M : pm_M} {K : Int → pm_M → Prop} {i j : Int} {x y : Int × Int} (hT : RT T nT M) (hi : 0 ≤ i ∧ i < 480) (hj : 0 ≤ j ∧ j < 480)
    (ex : ∀ t, 0 ≤ t → t < nT → gI M 169 (16 * i + t) = (runP (pch P x.1 x.2) F (T t)).2.2.1 ∧ gI M 170 (16 * i + t) = (runP (pch P x.1 x.2) F (T t)).2.2.2.1) (ey : ∀ t, 0 ≤ t → t < nT → gI M 169 (16 * j + t) = (runP (pch P y.1 y.2) F (T t)).2.2.1 ∧ gI M 170 (16 * j + t) = (runP (pch P y.1 y.2) F (T t)).2.2.2.1)
    (h1 : alk P F T nT x y → K 1 M) (h0 : ¬ alk P F T nT x y → K 0 M) : k12_areAlike i j M K := by
  have hnT := hT.2.1
  apply k12_areAlike_r
  have l0 : ¬ alk P F T nT x y → ∀ t, 0 ≤ t → t ≤ nT → k12_areAlike_5 i j 0 t M K := by
    intro hno t t0 t1
    refine upto (n := nT) (I := fun t (_ : Unit) => True) (Q := fun t _ => k12_areAlike_5 i j 0 t M K) ?_ ?_ t () t0 t1 trivial
    · intro _ _
      apply k12_areAlike_5_r
      rw [hT.1, if_neg (by omega)]
      exact ⟨Or.inl rfl, h0 hno⟩
    · intro t _ t0 t1 _ ih
      apply k12_areAlike_5_r
      rw [hT.1, if_pos t1, if_pos rfl, w32_id (show -2147483648 ≤ t + 1 ∧ t + 1 < 2147483648 by omega)]
      exact ih () trivial
  refine upto (n := nT) (I := fun t (_ : Unit) => ∀ u, 0 ≤ u → u < t → (runP (pch P x.1 x.2) F (T u)).2.2.1 = (runP (pch P y.1 y.2) F (T u)).2.2.1 ∧ (runP (pch P x.1 x.2) F (T u)).2.2.2.1 = (runP (pch P y.1 y.2) F (T u)).2.2.2.1) (Q := fun t _ => k12_areAlike_5 i j 1 t M K) ?_ ?_ 0 () (by omega) (by omega) (fun u u0 u1 => by omega)
  · intro _ h
    apply k12_areAlike_5_r
    rw [hT.1, if_neg (by omega)]
    exact ⟨Or.inr rfl, h1 h⟩
  · intro t _ t0 t1 h ih
    apply k12_areAlike_5_r
    rw [hT.1, if_pos t1, if_neg (by decide), w16' hi.1 (by omega) t0 (by omega), w16' hj.1 (by omega) t0 (by omega), w32_id (show -2147483648 ≤ t + 1 ∧ t + 1 < 2147483648 by omega)]
    refine ⟨⟨by omega, by omega⟩, ⟨by omega, by omega⟩, ?_⟩
    rw [(ex t t0 t1).1, (ey t t0 t1).1, (ex t t0 t1).2, (ey t t0 t1).2]
    by_cases e1 : (runP (pch P x.1 x.2) F (T t)).2.2.1 = (runP (pch P y.1 y.2) F (T t)).2.2.1
    · rw [if_pos e1]
      by_cases e2 : (runP (pch P x.1 x.2) F (T t)).2.2.2.1 = (runP (pch P y.1 y.2) F (T t)).2.2.2.1
      · rw [if_pos e2]
        refine ih () (fun u u0 u1 => ?_)
        by_cases eu : u = t
        · subst eu; exact ⟨e1, e2⟩
        · exact h u u0 (by omega)
      · rw [if_neg e2]; exact l0 (fun z => e2 (z t t0 t1).2) _ (by omega) (by omega)
    · rw [if_neg e1]; exact l0 (fun z => e1 (z t t0 t1).1) _ (by omega) (by omega)
theorem laysEnds_r {P : Pg} {F : Fo} {T : Ts} {nT : Int} {n c : Int} (hW : WF (pch P n c)) (hp0 : 0 < P 2 15) {acc : List (Int × Int)} (hl : acc.length < 480) {M : pm_M} {K : pm_M → Prop} (hB : RB (pch P n c) F T nT M) (hM : RMI P F T nT acc M) (h165 : gI M 165 (acc.length : Int) = n) (h166 : gI M 166 (acc.length : Int) = c)
    (hq : ∀ M', Fr qEnds M M' → (∀ M'', Fr (fun a i => a == 142 && i == 50) M' M'' → gI M'' 142 50 = ((acc.length + 1 : Nat) : Int) → RMI P F T nT (acc ++ [(n, c)]) M'') → K M') : k12_laysEnds M K := by
  have hnT := hB.2.2.1.2.1
  have hp0' : 0 < (pch P n c) 2 15 := hp0
  obtain ⟨L, hL⟩ : ∃ L : Int, L = (acc.length : Int) := ⟨_, rfl⟩
  have L0 : 0 ≤ L := by omega
  have L1 : L < 480 := by omega
  rw [← hL] at h165 h166
  apply k12_laysEnds_r
  rw [hM.1, ← hL]
  refine ⟨⟨L0, by omega⟩, ?_⟩
  have p1 : ∀ a i, (fun a i => qRun a i || ((a == 167 || a == 168) && i == L.toNat) || ((a == 169 || a == 170) && 16 * L.toNat ≤ i)) a i = true → qEnds a i = true := by
    intro a i h
    simp only [qEnds, Bool.or_eq_true, Bool.and_eq_true, beq_iff_eq, decide_eq_true_eq] at h ⊢
    rcases h with (h | h) | h
    · exact Or.inl (Or.inl (Or.inl (Or.inl h)))
    · rcases h.1 with h | h
      · exact Or.inl (Or.inl (Or.inl (Or.inr h)))
      · exact Or.inl (Or.inl (Or.inr h))
    · rcases h.1 with h | h
      · exact Or.inl (Or.inr h)
      · exact Or.inr h
  generalize hpk : (fun (a i : Nat) => qRun a i || ((a == 167 || a == 168) && i == L.toNat) || ((a == 169 || a == 170) && 16 * L.toNat ≤ i)) = pk at p1
  have hpt : ∀ a i, qRun a i = true → pk a i = true := fun a i h => by rw [← hpk]; simp only [h, Bool.true_or]
  have keep : ∀ M2, Fr pk M M2 → RB (pch P n c) F T nT M2 ∧ gI M2 142 50 = L ∧ (∀ i : Nat, i ≤ acc.length → gI M2 165 (i : Int) = gI M 165 (i : Int) ∧ gI M2 166 (i : Int) = gI M 166 (i : Int)) ∧ (∀ i : Nat, i < acc.length → gI M2 167 (i : Int) = gI M 167 (i : Int) ∧ gI M2 168 (i : Int) = gI M 168 (i : Int) ∧ ∀ t, 0 ≤ t → t < nT → gI M2 169 (16 * (i : Int) + t) = gI M 169 (16 * (i : Int) + t) ∧ gI M2 170 (16 * (i : Int) + t) = gI M 170 (16 * (i : Int) + t)) := by
    intro M2 f
    rw [← hpk] at f
    refine ⟨hB.fr f (fun a i a1 a2 => by simp [qRun]; omega) ⟨rfl, rfl, rfl, rfl, rfl⟩, ?_, ?_, ?_⟩
    · rw [f.g (by simp [qRun]), hM.1, hL]
    · intro i hi; exact ⟨f.g (by simp [qRun]), f.g (by simp [qRun])⟩
    · intro i hi
      exact ⟨f.g (by simp [qRun]; omega), f.g (by simp [qRun]; omega), fun t t0 t1 => ⟨f.g (by simp [qRun]; omega), f.g (by simp [qRun]; omega)⟩⟩
  refine upto (n := nT) (I := fun t M2 => Fr pk M M2 ∧ gI M2 167 L = cn (psB (pch P n c) F T 1) t.toNat ∧ ∀ u, 0 ≤ u → u < t → gI M2 169 (16 * L + u) = (runP (pch P n c) F (T u)).2.2.1 ∧ gI M2 170 (16 * L + u) = (runP (pch P n c) F (T u)).2.2.2.1) (Q := fun t M2 => k12_laysEnds_12 t M2 K) ?_ ?_ 0 _ (by decide) (by omega) ⟨Fr.rf.up _ (by rw [← hpk]; simp), by rw [gI_eq]; rfl, fun u u0 u1 => by omega⟩
  · intro M2 ⟨f2, q167, q169⟩
    obtain ⟨b2, e2, o2, o2'⟩ := keep M2 f2
    apply k12_laysEnds_12_r
    rw [b2.2.2.1.1, if_neg (by omega)]
    have fin : ∀ k : Nat, k ≤ acc.length → (∀ j, j < k → ¬ alk P F T nT (acc.getD j (0, 0)) (n, c)) → (k < acc.length → alk P F T nT (acc.getD k (0, 0)) (n, c)) → (0 ≤ L ∧ L < 800) ∧ K (upI M2 168 L (k : Int)) := by
      intro k hk h1 h2
      refine ⟨⟨L0, by omega⟩, hq _ ((f2.mono p1).up _ (by simp [qEnds])) (fun M4 f4 e4 => ⟨by rw [e4, List.length_append]; rfl, ?_⟩)⟩
      intro i hi
      rw [List.length_append] at hi
      simp only [List.length_singleton] at hi
      rw [f4.g rfl, f4.g rfl, f4.g rfl, f4.g rfl, gI_ne _ _ _ _ (by decide), gI_ne _ _ _ _ (by decide), gI_ne _ _ _ _ (by decide), gI_up _ _ L0 (by omega), (o2 i (by omega)).1, (o2 i (by omega)).2]
      by_cases e : i < acc.length
      · obtain ⟨x3, x4, x5⟩ := o2' i e
        obtain ⟨y1, y2, y3, y4, y6⟩ := hM.2 i e
        rw [getD_app e, fal_app e, if_neg (by omega)]
        refine ⟨y1, y2, x3.trans y3, x4.trans y4, fun t t0 t1 => ?_⟩
        rw [f4.g rfl, f4.g rfl, gI_ne _ _ _ _ (by decide), gI_ne _ _ _ _ (by decide)]
        exact ⟨(x5 t t0 t1).1.trans (y6 t t0 t1).1, (x5 t t0 t1).2.trans (y6 t t0 t1).2⟩
      · have ei : i = acc.length := by omega
        subst ei
        rw [getD_end, ← hL, if_pos rfl]
        refine ⟨h165, h166, q167, ?_, fun t t0 t1 => ?_⟩
        · unfold fal
          rw [fs_eq acc.length k _ hk (fun j hj => by rw [getD_end, getD_app (by omega)]; exact h1 j hj) (fun hl => by rw [getD_end, getD_app hl]; exact h2 hl)]
        · rw [f4.g rfl, f4.g rfl, gI_ne _ _ _ _ (by decide), gI_ne _ _ _ _ (by decide)]; exact q169 t t0 t1
    refine upto (n := L) (I := fun k (_ : Unit) => ∀ j : Nat, (j : Int) < k → ¬ alk P F T nT (acc.getD j (0, 0)) (n, c)) (Q := fun k _ => k12_laysEnds_97 k M2 K) ?_ ?_ 0 () (by decide) L0 (fun j hj => by omega)
    · intro _ h
      apply k12_laysEnds_97_r
      rw [e2, if_neg (by omega)]
      have := fin acc.length (Nat.le_refl _) (fun j hj => h j (by omega)) (fun hl => absurd hl (Nat.lt_irrefl _))
      rw [← hL] at this
      exact this
    · intro k _ k0 k1 h ih
      obtain ⟨kn, rfl⟩ : ∃ kn : Nat, k = (kn : Int) := ⟨k.toNat, by omega⟩
      have hkl : kn < acc.length := by omega
      obtain ⟨x3, x4, x5⟩ := o2' kn hkl
      obtain ⟨y1, y2, y3, y4, y6⟩ := hM.2 kn hkl
      apply k12_laysEnds_97_r
      rw [e2, if_pos k1, w32_id (show -2147483648 ≤ (kn : Int) + 1 ∧ (kn : Int) + 1 < 2147483648 by omega)]
      refine areAlike_r (P := P) (F := F) (x := acc.getD kn (0, 0)) (y := (n, c)) b2.2.2.1 ⟨by omega, by omega⟩ ⟨L0, L1⟩ (fun t t0 t1 => ⟨(x5 t t0 t1).1.trans (y6 t t0 t1).1, (x5 t t0 t1).2.trans (y6 t t0 t1).2⟩) q169 ?_ ?_
      · intro ha
        rw [if_neg (by decide), e2]
        exact fin kn (by omega) (fun j hj => h j (by omega)) (fun _ => ha)
      · intro ha
        rw [if_pos rfl]
        refine ih () (fun j hj => ?_)
        by_cases e : j = kn
        · subst e; exact ha
        · exact h j (by omega)
  · intro t M2 t0 t1 ⟨f2, q167, q169⟩ ih
    obtain ⟨b2, e2, o2, o2'⟩ := keep M2 f2
    have hcl := cn_le (psB (pch P n c) F T 1) t.toNat
    apply k12_laysEnds_12_r
    rw [b2.2.2.1.1, if_pos t1, e2, q167]
    refine ⟨⟨L0, by omega⟩, ?_⟩
    refine rpassesT_r hW.r hW.s hW.t hp0' t0 t1 b2.1 b2.2.1 b2.2.2.1 (fun M3 hQ hR => ?_)
    obtain ⟨ret, hR⟩ := hR
    have fQ := hQ.fr
    have f3 : Fr pk M M3 := f2.trans (fQ.mono hpt)
    obtain ⟨b3, e3, o3, o3'⟩ := keep M3 f3
    have g29 : gI M3 142 29 = (runP (pch P n c) F (T t)).2.2.1 := hR.2.2.2.1
    have g30 : gI M3 142 30 = (runP (pch P n c) F (T t)).2.2.2.1 := hR.2.2.2.2.1
    have w5 : w32 (w32 (5 * t) + 4) = 5 * t + 4 := by rw [w32_id (show -2147483648 ≤ 5 * t ∧ 5 * t < 2147483648 by omega), w32_id (by omega)]
    have wz : w32 (cn (psB (pch P n c) F T 1) t.toNat + 0) = cn (psB (pch P n c) F T 1) t.toNat := by rw [Int.add_zero]; exact w32_id (by omega)
    have wo : w32 (cn (psB (pch P n c) F T 1) t.toNat + 1) = cn (psB (pch P n c) F T 1) t.toNat + 1 := w32_id (by omega)
    rw [e3, w16' L0 (by omega) t0 (by omega), w32_id (show -2147483648 ≤ t + 1 ∧ t + 1 < 2147483648 by omega), w5, wz, wo, g29, g30]
    have fin : ∀ x, x = cn (psB (pch P n c) F T 1) (t + 1).toNat → k12_laysEnds_12 (t + 1) (upI (upI (upI M3 167 L x) 169 (16 * L + t) (runP (pch P n c) F (T t)).2.2.1) 170 (16 * L + t) (runP (pch P n c) F (T t)).2.2.2.1) K := by
      intro x hx
      refine ih _ ⟨((f3.up _ (by rw [← hpk]; simp)).up _ (by rw [← hpk]; simp; omega)).up _ (by rw [← hpk]; simp; omega), ?_, ?_⟩
      · rw [gI_ne _ _ _ _ (by decide), gI_ne _ _ _ _ (by decide), gI_eq]; exact hx
      · intro u u0 u1
        rw [gI_ne _ _ _ _ (by decide), gI_up _ _ (by omega) (by omega), gI_up _ _ (by omega) (by omega)]
        by_cases e : u = t
        · subst e; rw [if_pos rfl, if_pos rfl]; exact ⟨rfl, rfl⟩
        · rw [if_neg (by omega), if_neg (by omega), gI_ne _ _ _ _ (by decide), gI_ne _ _ _ _ (by decide), gI_ne _ _ _ _ (by decide), fQ.g rfl, fQ.g rfl]
          exact q169 u u0 (by omega)
    have no : psB (pch P n c) F T 1 t = false → k12_laysEnds_12 (t + 1) (upI (upI (upI M3 167 L (cn (psB (pch P n c) F T 1) t.toNat)) 169 (16 * L + t) (runP (pch P n c) F (T t)).2.2.1) 170 (16 * L + t) (runP (pch P n c) F (T t)).2.2.2.1) K := fun h => fin _ (by rw [cn_no t0 h])
    rcases okT_01 (pch P n c) F T t with z | z
    · rw [z, if_pos rfl]
      exact ⟨⟨by omega, by omega⟩, no (by unfold psB; rw [z]; simp)⟩
    · rw [z, if_neg (by decide)]
      refine ⟨⟨by omega, by omega⟩, ?_⟩
      rw [b3.2.2.1.2.2 t 4 t0 t1 (by decide) (by decide)]
      by_cases h4 : T t 4 = 1
      · rw [if_pos h4]
        exact ⟨⟨by omega, by omega⟩, fin _ (by rw [cn_yes t0 (by unfold psB hdB; rw [z, if_pos h4]; simp)])⟩
      · rw [if_neg h4]
        exact ⟨⟨by omega, by omega⟩, no (by unfold psB hdB; rw [if_neg h4]; simp)⟩

-- needs 30 31 32 33a 33b 33c 33d 33e 33f 33g 33h 33i 33j 40 41 42 43 44 45 46 50 51 52 53 54 56 57 60 61
/-! the class finds the mends -/
theorem w16 {i t : Int} (i0 : 0 ≤ i) (i1 : i < 1000) (t0 : 0 ≤ t) (t1 : t < 16) : w32 (w32 (i * 16) + t) = 16 * i + t := by
  rw [w32_id (show -2147483648 ≤ i * 16 ∧ i * 16 < 2147483648 by omega), w32_id (by omega)]; omega
/-- both rows are told by how the runs end -/
theorem endAlike_r {P : Pg} {F : Fo} {T : Ts} {nT : Int} {M : pm_M} {K : Int → pm_M → Prop} {i j : Int} {x y : Int × Int} (hT : CT T nT M) (hI : TI T nT) (hi : 0 ≤ i ∧ i < 480) (hj : 0 ≤ j ∧ j < 480) (hx : WF (pch P x.1 x.2)) (hy : WF (pch P y.1 y.2))
    (ex : ∀ t, 0 ≤ t → t < nT → gI M 137 (16 * i + t) = enl (runP (pch P x.1 x.2) F (T t)).2.2.1 (runP (pch P x.1 x.2) F (T t)).2.2.2.1) (ey : ∀ t, 0 ≤ t → t < nT → gI M 137 (16 * j + t) = enl (runP (pch P y.1 y.2) F (T t)).2.2.1 (runP (pch P y.1 y.2) F (T t)).2.2.2.1)
    (h1 : alk P F T nT x y → K 1 M) (h0 : ¬ alk P F T nT x y → K 0 M) : k2_endAlike i j M K := by
  have hnT := hT.2.1
  apply k2_endAlike_r
  refine upto (n := nT) (I := fun t (_ : Unit) => ∀ u, 0 ≤ u → u < t → (runP (pch P x.1 x.2) F (T u)).2.2.1 = (runP (pch P y.1 y.2) F (T u)).2.2.1 ∧ (runP (pch P x.1 x.2) F (T u)).2.2.2.1 = (runP (pch P y.1 y.2) F (T u)).2.2.2.1) (Q := fun t _ => k2_endAlike_2 i j t M K) ?_ ?_ 0 () (by omega) (by omega) (fun u u0 u1 => by omega)
  · intro _ h
    apply k2_endAlike_2_r
    rw [hT.1, if_neg (by omega)]
    exact h1 h
  · intro t _ t0 t1 h ih
    apply k2_endAlike_2_r
    rw [hT.1, if_pos t1, w16 hi.1 (by omega) t0 (by omega), w16 hj.1 (by omega) t0 (by omega), w32_id (show -2147483648 ≤ t + 1 ∧ t + 1 < 2147483648 by omega)]
    refine ⟨⟨by omega, by omega⟩, ⟨by omega, by omega⟩, ?_⟩
    rw [ex t t0 t1, ey t t0 t1]
    obtain ⟨-, sx1, sx2⟩ := runP_i (F := F) hx (r := T t) (fun j j0 j1 => hI t j t0 t1 j0 (by omega))
    obtain ⟨-, sy1, sy2⟩ := runP_i (F := F) hy (r := T t) (fun j j0 j1 => hI t j t0 t1 j0 (by omega))
    have hinj := enl_inj sx1 sy1 sx2 sy2
    by_cases e : enl (runP (pch P x.1 x.2) F (T t)).2.2.1 (runP (pch P x.1 x.2) F (T t)).2.2.2.1 = enl (runP (pch P y.1 y.2) F (T t)).2.2.1 (runP (pch P y.1 y.2) F (T t)).2.2.2.1
    · rw [if_pos (lcmp_0.mpr e)]
      refine ih () (fun u u0 u1 => ?_)
      by_cases eu : u = t
      · subst eu; exact hinj.mp e
      · exact h u u0 (by omega)
    · rw [if_neg (fun z => e (lcmp_0.mp z))]
      exact h0 (fun z => e (hinj.mpr (z t t0 t1)))
theorem alk_trans {P : Pg} {F : Fo} {T : Ts} {nT : Int} {x y z : Int × Int} (h1 : alk P F T nT x y) (h2 : alk P F T nT y z) : alk P F T nT x z := fun t t0 t1 => ⟨(h1 t t0 t1).1.trans (h2 t t0 t1).1, (h1 t t0 t1).2.trans (h2 t t0 t1).2⟩
theorem keep_r {P : Pg} {F : Fo} {T : Ts} {nT : Int} {n c : Int} (hW : WF (pch P n c)) {acc : List (Int × Int)} (hl : acc.length < 480) {M : pm_M} {K : pm_M → Prop} (hS : Sm (pch P n c) M) (hF : Fm F M) (hT : CT T nT M) (hI : TI T nT) (hM : MI P F T nT acc M)
    (hq : ∀ M', Fr pKeep M M' → MI P F T nT (acc ++ [(n, c)]) M' → K M') : k2_keep n c M K := by
  have hnT := hT.2.1
  obtain ⟨L, hL⟩ : ∃ L : Int, L = (acc.length : Int) := ⟨_, rfl⟩
  have L0 : 0 ≤ L := by omega
  have L1 : L < 480 := by omega
  apply k2_keep_r
  rw [hM.1, ← hL, if_pos L1]
  refine ⟨⟨L0, L1⟩, ?_⟩
  generalize hM1 : upI (upI (upI M 133 L n) 134 L c) 135 L 0 = M1
  -- what is written: at the end of the rows
  have p1 : ∀ a i, (fun a i => pTry a i || ((a == 133 || a == 134 || a == 135 || a == 136) && i == L.toNat) || (a == 137 && 16 * L.toNat ≤ i)) a i = true → pKeep a i = true := by
    intro a i h
    simp only [pKeep, Bool.or_eq_true, Bool.and_eq_true, beq_iff_eq, decide_eq_true_eq] at h ⊢
    rcases h with (h | h) | h
    · exact Or.inl (Or.inl (Or.inl (Or.inl (Or.inl (Or.inl h)))))
    · rcases h.1 with ((h | h) | h) | h
      · exact Or.inl (Or.inl (Or.inl (Or.inl (Or.inl (Or.inr h)))))
      · exact Or.inl (Or.inl (Or.inl (Or.inl (Or.inr h))))
      · exact Or.inl (Or.inl (Or.inl (Or.inr h)))
      · exact Or.inl (Or.inl (Or.inr h))
    · exact Or.inl (Or.inr h.1)
  generalize hpk : (fun (a i : Nat) => pTry a i || ((a == 133 || a == 134 || a == 135 || a == 136) && i == L.toNat) || (a == 137 && 16 * L.toNat ≤ i)) = pk at p1
  have hpt : ∀ a i, pTry a i = true → pk a i = true := fun a i h => by rw [← hpk]; simp only [h, Bool.true_or]
  have f1 : Fr pk M M1 := by
    rw [← hM1, ← hpk]
    exact ((Fr.rf.up _ (by simp)).up _ (by simp)).up _ (by simp)
  have keep : ∀ M2, Fr pk M M2 → Sm (pch P n c) M2 ∧ Fm F M2 ∧ CT T nT M2 ∧ gI M2 132 10 = L ∧ (∀ i : Nat, i < acc.length → gI M2 133 (i : Int) = gI M 133 (i : Int) ∧ gI M2 134 (i : Int) = gI M 134 (i : Int) ∧ gI M2 135 (i : Int) = gI M 135 (i : Int) ∧ gI M2 136 (i : Int) = gI M 136 (i : Int) ∧ ∀ t, 0 ≤ t → t < nT → gI M2 137 (16 * (i : Int) + t) = gI M 137 (16 * (i : Int) + t)) := by
    intro M2 f
    rw [← hpk] at f
    refine ⟨f.sm hS (fun a i a1 a2 => by simp [pTry]; omega), ⟨?_, ?_, ?_, hF.2.2.2⟩, ⟨?_, hnT, ?_⟩, ?_, ?_⟩
    · rw [f.g (by simp [pTry])]; exact hF.1
    · rw [f.g (by simp [pTry])]; exact hF.2.1
    · rw [f.g (by simp [pTry])]; exact hF.2.2.1
    · rw [f.g (by simp [pTry])]; exact hT.1
    · intro t j t0 t1 j0 j1; rw [f.g (by simp [pTry]; omega)]; exact hT.2.2 t j t0 t1 j0 j1
    · rw [f.g (by simp [pTry]), hM.1, hL]
    · intro i hi
      refine ⟨f.g (by simp [pTry]; omega), f.g (by simp [pTry]; omega), f.g (by simp [pTry]; omega), f.g (by simp [pTry]; omega), fun t t0 t1 => f.g (by simp [pTry]; omega)⟩
  have e135 : gI M1 135 L = 0 := by rw [← hM1, gI_eq]
  have e133 : gI M1 133 L = n := by rw [← hM1, gI_ne _ _ _ _ (by decide), gI_ne _ _ _ _ (by decide), gI_eq]
  have e134 : gI M1 134 L = c := by rw [← hM1, gI_ne _ _ _ _ (by decide), gI_eq]
  clear hM1
  refine upto (n := nT) (I := fun t M2 => Fr pk M M2 ∧ gI M2 133 L = n ∧ gI M2 134 L = c ∧ gI M2 135 L = cn (psB (pch P n c) F T 1) t.toNat ∧ ∀ u, 0 ≤ u → u < t → gI M2 137 (16 * L + u) = enl (runP (pch P n c) F (T u)).2.2.1 (runP (pch P n c) F (T u)).2.2.2.1) (Q := fun t M2 => k2_keep_43 t M2 K) ?_ ?_ 0 M1 (by decide) (by omega) ⟨f1, e133, e134, e135, fun u u0 u1 => by omega⟩
  · -- all tests run: the first that is alike
    intro M2 ⟨f2, q133, q134, q135, q137⟩
    obtain ⟨s2, m2, t2, b2, o2⟩ := keep M2 f2
    apply k2_keep_43_r
    rw [t2.1, if_neg (by omega), b2]
    have fin : ∀ k : Nat, k ≤ acc.length → (∀ j, j < k → ¬ alk P F T nT (acc.getD j (0, 0)) (n, c)) → (k < acc.length → alk P F T nT (acc.getD k (0, 0)) (n, c)) → (0 ≤ L ∧ L < 480) ∧ K (upI (upI M2 136 L (k : Int)) 132 10 (w32 (gI M2 132 10 + 1))) := by
      intro k hk h1 h2
      refine ⟨⟨L0, L1⟩, hq _ (((f2.mono p1).up _ (by simp [pKeep])).up _ (by simp [pKeep])) ⟨?_, ?_⟩⟩
      · rw [gI_eq, b2, w32_id (by omega), List.length_append]; simp only [List.length_singleton]; omega
      · intro i hi
        rw [List.length_append] at hi
        simp only [List.length_singleton] at hi
        rw [gI_ne _ _ _ _ (by decide), gI_ne _ _ _ _ (by decide), gI_ne _ _ _ _ (by decide), gI_ne _ _ _ _ (by decide), gI_ne _ _ _ _ (by decide), gI_ne _ _ _ _ (by decide), gI_ne _ _ _ _ (by decide), gI_up _ _ L0 (by omega)]
        by_cases e : i < acc.length
        · obtain ⟨x1, x2, x3, x4, x5⟩ := o2 i e
          obtain ⟨y1, y2, y3, y4, y5, y6⟩ := hM.2 i e
          rw [getD_app e, fal_app e, if_neg (by omega)]
          refine ⟨x1.trans y1, x2.trans y2, x3.trans y3, x4.trans y4, y5, fun t t0 t1 => ?_⟩
          rw [gI_ne _ _ _ _ (by decide), gI_ne _ _ _ _ (by decide)]
          exact (x5 t t0 t1).trans (y6 t t0 t1)
        · have ei : i = acc.length := by omega
          subst ei
          rw [getD_end, ← hL, if_pos rfl]
          refine ⟨q133, q134, q135, ?_, hW, fun t t0 t1 => ?_⟩
          · unfold fal
            rw [fs_eq acc.length k _ hk (fun j hj => by rw [getD_end, getD_app (by omega)]; exact h1 j hj) (fun hl => by rw [getD_end, getD_app hl]; exact h2 hl)]
          · rw [gI_ne _ _ _ _ (by decide), gI_ne _ _ _ _ (by decide)]; exact q137 t t0 t1
    apply k2_firstAlike_r
    refine upto (n := L) (I := fun k (_ : Unit) => ∀ j : Nat, (j : Int) < k → ¬ alk P F T nT (acc.getD j (0, 0)) (n, c)) (Q := fun k _ => k2_firstAlike_2 L k M2 _) ?_ ?_ 0 () (by decide) L0 (fun j hj => by omega)
    · intro _ h
      apply k2_firstAlike_2_r
      rw [if_neg (by omega)]
      have := fin acc.length (Nat.le_refl _) (fun j hj => h j (by omega)) (fun hl => absurd hl (Nat.lt_irrefl _))
      rw [← hL] at this
      exact this
    · intro k _ k0 k1 h ih
      obtain ⟨kn, rfl⟩ : ∃ kn : Nat, k = (kn : Int) := ⟨k.toNat, by omega⟩
      have hkl : kn < acc.length := by omega
      obtain ⟨x1, x2, x3, x4, x5⟩ := o2 kn hkl
      obtain ⟨y1, y2, y3, y4, y5, y6⟩ := hM.2 kn hkl
      apply k2_firstAlike_2_r
      rw [if_pos k1, w32_id (show -2147483648 ≤ (kn : Int) + 1 ∧ (kn : Int) + 1 < 2147483648 by omega), x4, y4]
      refine ⟨⟨by omega, by omega⟩, ?_⟩
      have next : ¬ alk P F T nT (acc.getD kn (0, 0)) (n, c) → ∀ j : Nat, (j : Int) < (kn : Int) + 1 → ¬ alk P F T nT (acc.getD j (0, 0)) (n, c) := by
        intro hno j hj
        by_cases e : j = kn
        · subst e; exact hno
        · exact h j (by omega)
      by_cases e : ((fal P F T nT acc kn : Nat) : Int) = (kn : Int)
      · rw [if_pos e]
        refine endAlike_r (x := acc.getD kn (0, 0)) (y := (n, c)) t2 hI ⟨by omega, by omega⟩ ⟨L0, L1⟩ y5 hW (fun t t0 t1 => (x5 t t0 t1).trans (y6 t t0 t1)) q137 ?_ ?_
        · intro ha
          rw [if_neg (by decide)]
          exact fin kn (by omega) (fun j hj => h j (by omega)) (fun _ => ha)
        · intro ha
          rw [if_pos rfl]
          exact ih () (next ha)
      · rw [if_neg e]
        refine ih () (next (fun ha => ?_))
        obtain ⟨u1, u2, u3⟩ := fs_ex kn (fun j => alk P F T nT (acc.getD j (0, 0)) (acc.getD kn (0, 0)))
        have hlt : fal P F T nT acc kn < kn := by
          have : fal P F T nT acc kn ≤ kn := u1
          omega
        exact h (fal P F T nT acc kn) (by omega) (alk_trans (u3 hlt) ha)
  · intro t M2 t0 t1 ⟨f2, q133, q134, q135, q137⟩ ih
    obtain ⟨s2, m2, t2, b2, o2⟩ := keep M2 f2
    have hcl := cn_le (psB (pch P n c) F T 1) t.toNat
    apply k2_keep_43_r
    rw [t2.1, if_pos t1]
    refine cpasses_r hW.r t0 t1 s2 m2 t2 (fun M3 hR hC => ?_)
    have f3 : Fr pk M M3 := f2.trans (hR.g.fr.mono hpt)
    obtain ⟨s3, m3, t3, b3, o3⟩ := keep M3 f3
    obtain ⟨-, -, -, c6, c7, -, -⟩ := hC
    have fR := hR.fr
    have g133 : gI M3 133 L = n := by rw [fR.g rfl]; exact q133
    have g134 : gI M3 134 L = c := by rw [fR.g rfl]; exact q134
    have g135 : gI M3 135 L = cn (psB (pch P n c) F T 1) t.toNat := by rw [fR.g rfl]; exact q135
    have g137 : ∀ u, gI M3 137 u = gI M2 137 u := fun u => fR.g rfl
    rw [b3, w16 L0 (by omega) t0 (by omega), w32_id (show -2147483648 ≤ t + 1 ∧ t + 1 < 2147483648 by omega), c6, c7, g135]
    -- the end written
    have fin : ∀ M4, Fr pk M M4 → (∀ a j, a ≠ 135 → gI M4 a j = gI M3 a j) → gI M4 135 L = cn (psB (pch P n c) F T 1) (t + 1).toNat → k2_keep_43 (t + 1) (upI M4 137 (16 * L + t) (enl (runP (pch P n c) F (T t)).2.2.1 (runP (pch P n c) F (T t)).2.2.2.1)) K := by
      intro M4 f4 o4 e4
      refine ih _ ⟨f4.up _ (by rw [← hpk]; simp; omega), ?_, ?_, ?_, ?_⟩
      · rw [gI_ne _ _ _ _ (by decide), o4 _ _ (by decide)]; exact g133
      · rw [gI_ne _ _ _ _ (by decide), o4 _ _ (by decide)]; exact g134
      · rw [gI_ne _ _ _ _ (by decide)]; exact e4
      · intro u u0 u1
        rw [gI_up _ _ (by omega) (by omega)]
        by_cases e : u = t
        · subst e; rw [if_pos rfl]
        · rw [if_neg (by omega), o4 _ _ (by decide), g137]; exact q137 u u0 (by omega)
    have hf0 : psB (pch P n c) F T 1 t = false → k2_keep_43 (t + 1) (upI M3 137 (16 * L + t) (enl (runP (pch P n c) F (T t)).2.2.1 (runP (pch P n c) F (T t)).2.2.2.1)) K := fun h => fin M3 f3 (fun _ _ _ => rfl) (by rw [cn_no t0 h]; exact g135)
    rcases okT_01 (pch P n c) F T t with z | z
    · rw [z, if_pos rfl]
      exact ⟨⟨by omega, by omega⟩, hf0 (by unfold psB; rw [z]; simp)⟩
    · rw [z, if_neg (by decide)]
      refine ⟨⟨t0, by omega⟩, ?_⟩
      rw [t3.2.2 t 4 t0 t1 (by decide) (by decide)]
      by_cases h4 : T t 4 = 1
      · rw [if_pos h4, w32_id (by omega)]
        refine ⟨⟨L0, L1⟩, ⟨by omega, by omega⟩, ?_⟩
        refine fin _ (f3.up _ (by rw [← hpk]; simp)) (fun a j ha => gI_ne _ _ _ _ ha) ?_
        rw [gI_eq, cn_yes t0 (by unfold psB hdB; rw [z, if_pos h4]; simp)]
      · rw [if_neg h4]
        exact ⟨⟨by omega, by omega⟩, hf0 (by unfold psB hdB; rw [if_neg h4]; simp)⟩

-- needs 30 31 32 33a 33b 33c 33d 33e 33f 33g 33h 33i 33j 40 41 42
/-! the class's run by a test is the flat run -/
def PWr (P : Pg) : Prop := P 2 15 ≤ 60 ∧ (∀ s, 0 ≤ s → s < P 2 15 → P 3 s ≤ 3 → ∃ f, Ex P f (s + 1) (P 9 s) ∧ P 9 s < P 2 15) ∧ (∀ n, 0 ≤ n → n < P 2 15 → (P 3 n = 5 ∨ P 3 n = 0) → 0 ≤ P 4 n ∧ P 4 n < 9)
theorem evx_congr {P : Pg} {vr vr' : Int → Int} (hv : ∀ j, 0 ≤ j → j < 9 → vr j = vr' j) : ∀ {f : Nat} {n e : Int}, Ex P f n e → (∀ m, n ≤ m → m ≤ e → P 3 m = 5 → 0 ≤ P 4 m ∧ P 4 m < 9) → ∀ g, evx P vr g n = evx P vr' g n := by
  intro f
  induction f with
  | zero => intro n e h; exact h.elim
  | succ f ih =>
    intro n e h hr g
    cases g with
    | zero => rfl
    | succ g =>
      have hle := h.le
      unfold evx
      rcases h with ⟨h0, h⟩ | ⟨h0, h⟩ | ⟨h0, h⟩ | ⟨h0, ha, hb⟩
      · rw [if_pos h0, if_pos h0]
      · have := hr n (by omega) (by omega) h0
        rw [hv _ this.1 this.2]
        simp [h0]
      · simp [h0, ih h (fun m m1 m2 => hr m (by omega) (by omega)) g]
      · have := ha.le
        have := hb.le
        rw [ih ha (fun m m1 m2 => hr m (by omega) (by omega)) g, ih hb (fun m m1 m2 => hr m (by omega) (by omega)) g]
        simp [h0]
def Cr (σ : Sg) (M : pm_M) : Prop := (∀ j, 0 ≤ j → j < 9 → gI M 74 j = σ.1 j) ∧ gI M 73 5 = (σ.2.1.length : Int) ∧ (∀ i : Nat, i < σ.2.1.length → gI M 76 (i : Int) = σ.2.1.getD i 0) ∧ gI M 73 6 = σ.2.2.1 ∧ gI M 73 7 = σ.2.2.2.1 ∧ gI M 73 8 = σ.2.2.2.2.1 ∧ (∀ s, 0 ≤ s → s < 60 → (bt (gI M 73 9) s ↔ s ∈ σ.2.2.2.2.2))
def Sok (σ : Sg) : Prop := σ.2.1.length ≤ 300 ∧ 0 ≤ σ.2.2.2.2.1 ∧ σ.2.2.2.2.1 ≤ (σ.2.1.length : Int)
def Fm (F : Fo) (M : pm_M) : Prop := gI M 73 10 = F.1 ∧ (0 ≤ F.1 → gI M 73 11 = F.2.1) ∧ gI M 73 12 = F.2.2 ∧ (F.2.1 = 0 ∨ F.2.1 = 1)
/-- what a run leaves as it was -/
def Rf (M M' : pm_M) : Prop := Off [73, 74, 75, 76] M M' ∧ gI M' 73 10 = gI M 73 10 ∧ gI M' 73 11 = gI M 73 11 ∧ gI M' 73 12 = gI M 73 12 ∧ gI M' 73 13 = gI M 73 13
theorem Rf.rf {M : pm_M} : Rf M M := ⟨Off.rf, rfl, rfl, rfl, rfl⟩
theorem Rf.trans {M M' M'' : pm_M} (h : Rf M M') (h' : Rf M' M'') : Rf M M'' := ⟨h.1.trans h'.1, h'.2.1.trans h.2.1, h'.2.2.1.trans h.2.2.1, h'.2.2.2.1.trans h.2.2.2.1, h'.2.2.2.2.trans h.2.2.2.2⟩
theorem Rf.up {M M' : pm_M} (h : Rf M M') {a : Nat} {i : Int} (v : Int) (ha : a ∈ [74, 75, 76] ∨ (a = 73 ∧ (i = 5 ∨ i = 6 ∨ i = 7 ∨ i = 8 ∨ i = 9))) : Rf M (upI M' a i v) := by
  have hm : a ∈ [73, 74, 75, 76] := by
    rcases ha with ha | ⟨rfl, -⟩
    · exact List.mem_cons_of_mem _ ha
    · exact List.mem_cons_self
  refine ⟨h.1.up hm _ _, ?_⟩
  have key : ∀ k : Int, k = 10 ∨ k = 11 ∨ k = 12 ∨ k = 13 → gI (upI M' a i v) 73 k = gI M' 73 k := by
    intro k hk
    rcases ha with ha | ⟨rfl, hi⟩
    · refine gI_ne _ _ _ _ (fun z => ?_)
      subst z
      revert ha; decide
    · exact gI_nf _ _ (by omega)
  exact ⟨(key 10 (by simp)).trans h.2.1, (key 11 (by simp)).trans h.2.2.1, (key 12 (by simp)).trans h.2.2.2.1, (key 13 (by simp)).trans h.2.2.2.2⟩
theorem Rf.sm {M M' : pm_M} {P : Pg} (h : Rf M M') (hS : Sm P M) : Sm P M' := hS.off h.1 (by decide)
theorem Rf.fm {M M' : pm_M} {F : Fo} (h : Rf M M') (hF : Fm F M) : Fm F M' := ⟨h.2.1.trans hF.1, fun z => h.2.2.1.trans (hF.2.1 z), h.2.2.2.1.trans hF.2.2.1, hF.2.2.2⟩
theorem comesOutSo_r {P : Pg} {F : Fo} {M : pm_M} {K : Int → pm_M → Prop} {s v : Int} (hs : 0 ≤ s ∧ s < 60) (hP : gI M 5 s = P 5 s) (hF : Fm F M) (hq : K (if soP P F s v (gI M 73 8) = true then 1 else 0) (upI M 73 8 (w32 (gI M 73 8 + 1)))) : k1_comesOutSo s v M K := by
  apply k1_comesOutSo_r
  rw [hP, hF.1, hF.2.2.1]
  have h11 : s = F.1 → gI M 73 11 = F.2.1 := fun z => hF.2.1 (by omega)
  have h01 := hF.2.2.2
  clear hF
  obtain ⟨f, g, l⟩ := F
  simp only [] at h01 h11 hq ⊢
  unfold soP at hq
  simp only [] at hq
  generalize gI M 73 8 = ask at hq ⊢
  generalize P 5 s = mk at hq ⊢
  generalize upI M 73 8 (w32 (ask + 1)) = M1 at hq ⊢
  generalize gI M 73 11 = g' at h11 ⊢
  by_cases h3 : s = f
  · rw [h11 h3]
    rcases h01 with rfl | rfl <;> by_cases h1 : v = 0 <;> by_cases h2 : mk = 2 <;> by_cases h4 : ask = l <;> simp [h1, h2, h3, h4] at hq ⊢ <;> (first | exact ⟨by omega, hq⟩ | (refine ⟨by omega, ?_⟩; simpa [h1, h2, h3, h4] using hq))
  · by_cases h1 : v = 0 <;> by_cases h2 : mk = 2 <;> by_cases h4 : ask = l <;> simp [h1, h2, h3, h4] at hq ⊢ <;> (first | exact ⟨by omega, hq⟩ | (refine ⟨by omega, ?_⟩; simpa [h1, h2, h3, h4] using hq))
theorem fstep_ok {P : Pg} {F : Fo} {s : Int} {σ : Sg} (h : Sok σ) : Sok (fstep P F s σ).2 := by
  obtain ⟨h1, h2, h3⟩ := h
  have e : (σ.2.1 ++ [s]).length = σ.2.1.length + 1 := by simp
  unfold fstep
  by_cases h300 : (300 : Nat) ≤ σ.2.1.length
  · rw [if_pos h300]; exact ⟨h1, h2, h3⟩
  · rw [if_neg h300]
    cases evx P σ.1 60 (s + 1) with
    | none => exact ⟨by show (σ.2.1 ++ [s]).length ≤ 300; omega, h2, by show σ.2.2.2.2.1 ≤ ((σ.2.1 ++ [s]).length : Int); omega⟩
    | some v =>
      simp only []
      by_cases k0 : P 3 s = 0
      · rw [if_pos k0]; exact ⟨by show (σ.2.1 ++ [s]).length ≤ 300; omega, h2, by show σ.2.2.2.2.1 ≤ ((σ.2.1 ++ [s]).length : Int); omega⟩
      · rw [if_neg k0]
        by_cases k3 : P 3 s = 3
        · rw [if_pos k3]; exact ⟨by show (σ.2.1 ++ [s]).length ≤ 300; omega, h2, by show σ.2.2.2.2.1 ≤ ((σ.2.1 ++ [s]).length : Int); omega⟩
        · rw [if_neg k3]; exact ⟨by show (σ.2.1 ++ [s]).length ≤ 300; omega, by show 0 ≤ σ.2.2.2.2.1 + 1; omega, by show σ.2.2.2.2.1 + 1 ≤ ((σ.2.1 ++ [s]).length : Int); omega⟩
/-- the answer of a run -/
def okP (σ : Sg) (due : Int) : Int := if σ.2.2.1 = 0 then (if σ.2.2.2.1 = due then 1 else 0) else 0
theorem passes_loop {P : Pg} {F : Fo} (hW : PWr P) {t : Int} (ht : 0 ≤ t ∧ t < 16) {K : Int → pm_M → Prop} : ∀ (n : Nat) (s mv : Int) (σ : Sg) (M : pm_M), mv + n = 6321 → 0 ≤ mv → Sm P M → Fm F M → Cr σ M → Sok σ →
    (∀ M', Rf M M' → Cr (flat P F n s σ).2 M' → K (okP (flat P F n s σ).2 (gI M (20 + t.toNat) 3)) M') → k1_passes_56 t s mv M K := by
  intro n
  induction n with
  | zero =>
    intro s mv σ M hmv hm0 hS hF hC hk hq
    apply k1_passes_56_r
    rw [if_neg (by omega)]
    have h := hq M Rf.rf hC
    obtain ⟨-, -, -, c6, c7, -⟩ := hC
    rw [show flat P F 0 s σ = (s, σ) from rfl] at h
    unfold okP at h
    simp only [] at h
    rw [c6, c7]
    by_cases q1 : σ.2.2.1 = 0
    · rw [if_pos q1] at h ⊢
      exact ⟨ht, pm_ifK h⟩
    · rw [if_neg q1] at h ⊢
      exact h
  | succ n ih =>
    intro s mv σ M hmv hm0 hS hF hC hk hq
    have g3 := hS 3 (by decide) (by decide)
    have g5 := hS 5 (by decide) (by decide)
    have g2 := hS 2 (by decide) (by decide)
    have g10 := hS 10 (by decide) (by decide)
    apply k1_passes_56_r
    rw [if_pos (by omega), g3, g5, g2, g10]
    have fin : ¬ (0 ≤ s ∧ s < P 2 15 ∧ P 3 s ≤ 3) → (if gI M 73 6 = 0 then ((0 ≤ t ∧ t < 16) ∧ (if gI M 73 7 = gI M (20 + t.toNat) 3 then K 1 M else K 0 M)) else K 0 M) := by
      intro hns
      have h := hq M Rf.rf (by unfold flat; rw [if_neg hns]; exact hC)
      unfold flat at h
      rw [if_neg hns] at h
      obtain ⟨-, -, -, c6, c7, -⟩ := hC
      unfold okP at h
      rw [c6, c7]
      by_cases q1 : σ.2.2.1 = 0
      · rw [if_pos q1] at h ⊢
        exact ⟨ht, pm_ifK h⟩
      · rw [if_neg q1] at h ⊢
        exact h
    by_cases hs0 : s < 0
    · rw [if_pos hs0]; exact fin (by omega)
    rw [if_neg hs0]
    by_cases hs1 : s < P 2 15
    case neg => rw [if_neg hs1]; exact fin (by omega)
    rw [if_pos hs1]
    have h60 := hW.1
    refine ⟨⟨by omega, by omega⟩, ?_⟩
    by_cases hs3 : P 3 s ≤ 3
    case neg => rw [if_neg hs3]; exact fin (by omega)
    rw [if_pos hs3]
    have hst : 0 ≤ s ∧ s < P 2 15 ∧ P 3 s ≤ 3 := ⟨by omega, hs1, hs3⟩
    have wmv : w32 (mv + 1) = mv + 1 := w32_id (by omega)
    rw [wmv]
    unfold flat at hq
    rw [if_pos hst] at hq
    by_cases h5 : P 5 s = 1
    · rw [if_pos h5] at hq ⊢
      exact ih _ _ σ M (by omega) (by omega) hS hF hC hk hq
    rw [if_neg h5] at hq ⊢
    -- a step: what comes of it
    have go : ∀ M1, Rf M M1 → Cr (fstep P F s σ).2 M1 → k1_passes_56 t (fstep P F s σ).1 (mv + 1) M1 K := by
      intro M1 hR hC1
      refine ih _ _ _ M1 (by omega) (by omega) (hR.sm hS) (hR.fm hF) hC1 (fstep_ok hk) (fun M' hR' hC' => ?_)
      have := hq M' (hR.trans hR') hC'
      rw [show gI M1 (20 + t.toNat) 3 = gI M (20 + t.toNat) 3 from congrFun (hR.1.g (by simp; omega)) 3]
      exact this
    obtain ⟨cv, c5, ct, c6, c7, c8, c9⟩ := hC
    have hlen : (σ.2.1.length : Int) ≤ 300 := by have := hk.1; omega
    have rch : ∀ u, 0 ≤ u → u < 60 → (bt (pm_lor (gI M 73 9) (pm_lshl 1 s)) u ↔ u ∈ s :: σ.2.2.2.2.2) := by
      intro u u0 u1
      rw [bt_or u0 u1 (by omega) (by omega), c9 u u0 u1, List.mem_cons]
    obtain ⟨L, hL⟩ : ∃ L : Int, L = (σ.2.1.length : Int) := ⟨_, rfl⟩
    have c5' : gI M 73 5 = L := c5.trans hL.symm
    rw [c5']
    by_cases h300 : L < 300
    case neg =>
      rw [if_neg h300]
      have hf : fstep P F s σ = (-1, (σ.1, σ.2.1, 2, σ.2.2.2.1, σ.2.2.2.2.1, s :: σ.2.2.2.2.2)) := by
        unfold fstep; rw [if_pos (by omega)]
      rw [hf] at go
      refine go _ ((Rf.rf.up _ (Or.inr ⟨rfl, by simp⟩)).up _ (Or.inr ⟨rfl, by simp⟩)) ⟨?_, ?_, ?_, ?_, ?_, ?_, ?_⟩
      · intro i i0 i1; simp only []; rw [← cv i i0 i1, gI_ne _ _ _ _ (by decide), gI_ne _ _ _ _ (by decide)]
      · simp only []; rw [← c5, gI_nf _ _ (by decide), gI_nf _ _ (by decide)]
      · intro i hi; rw [← ct i hi, gI_ne _ _ _ _ (by decide), gI_ne _ _ _ _ (by decide)]
      · simp only []; rw [gI_eq]
      · simp only []; rw [← c7, gI_nf _ _ (by decide), gI_nf _ _ (by decide)]
      · simp only []; rw [← c8, gI_nf _ _ (by decide), gI_nf _ _ (by decide)]
      · intro u u0 u1; rw [gI_nf _ _ (by decide), gI_eq]; exact rch u u0 u1
    rw [if_pos h300]
    refine ⟨⟨by omega, by omega⟩, ?_⟩
    have wst : w32 (L + 1) = L + 1 := w32_id (by omega)
    rw [wst]
    obtain ⟨f, hE, hlt⟩ := hW.2.1 s hst.1 hst.2.1 hst.2.2
    -- the heap ahead of the working out
    generalize hM2 : upI (upI (upI M 73 9 (pm_lor (gI M 73 9) (pm_lshl 1 s))) 76 L s) 73 5 (L + 1) = M2
    have hR2 : Rf M M2 := by
      rw [← hM2]
      exact ((Rf.rf.up _ (Or.inr ⟨rfl, by simp⟩)).up _ (Or.inl (by decide))).up _ (Or.inr ⟨rfl, by simp⟩)
    have v2 : ∀ j, 0 ≤ j → j < 9 → gI M2 74 j = σ.1 j := by intro i i0 i1; rw [← hM2, ← cv i i0 i1, gI_ne _ _ _ _ (by decide), gI_ne _ _ _ _ (by decide), gI_ne _ _ _ _ (by decide)]
    have s2 : gI M2 73 5 = ((σ.2.1 ++ [s]).length : Int) := by rw [← hM2, gI_eq, hL]; simp
    have t2 : ∀ i : Nat, i < (σ.2.1 ++ [s]).length → gI M2 76 (i : Int) = (σ.2.1 ++ [s]).getD i 0 := by
      intro i hi
      rw [← hM2, gI_ne _ _ _ _ (by decide), gI_up _ _ (by omega) (by omega)]
      rw [List.length_append] at hi
      simp only [List.length_singleton] at hi
      by_cases hii : (i : Int) = L
      · have : i = σ.2.1.length := by omega
        subst this
        rw [if_pos hii]
        simp
      · rw [if_neg hii, gI_ne _ _ _ _ (by decide), ct i (by omega)]
        rw [List.getD_eq_getElem?_getD, List.getD_eq_getElem?_getD, List.getElem?_append_left (by omega)]
    have h2 : gI M2 73 6 = σ.2.2.1 := by rw [← hM2, ← c6, gI_nf _ _ (by decide), gI_ne _ _ _ _ (by decide), gI_nf _ _ (by decide)]
    have r2 : gI M2 73 7 = σ.2.2.2.1 := by rw [← hM2, ← c7, gI_nf _ _ (by decide), gI_ne _ _ _ _ (by decide), gI_nf _ _ (by decide)]
    have a2 : gI M2 73 8 = σ.2.2.2.2.1 := by rw [← hM2, ← c8, gI_nf _ _ (by decide), gI_ne _ _ _ _ (by decide), gI_nf _ _ (by decide)]
    have b2 : ∀ u, 0 ≤ u → u < 60 → (bt (gI M2 73 9) u ↔ u ∈ s :: σ.2.2.2.2.2) := by
      intro u u0 u1
      rw [← hM2, gI_nf _ _ (by decide), gI_ne _ _ _ _ (by decide), gI_eq]
      exact rch u u0 u1
    clear hM2
    have n300 : ¬ (300 : Nat) ≤ σ.2.1.length := by omega
    refine workOut_r (hR2.sm hS) hE (by omega) (by omega) rfl (fun m m1 m2 m5 => hW.2.2 m (by omega) (by omega) (Or.inl m5)) ?_ ?_
    · intro hev M3 ho3
      rw [evx_congr v2 hE (fun m m1 m2 m5 => hW.2.2 m (by omega) (by omega) (Or.inl m5))] at hev
      rw [if_pos rfl]
      have hf : fstep P F s σ = (-1, (σ.1, σ.2.1 ++ [s], 1, σ.2.2.2.1, σ.2.2.2.2.1, s :: σ.2.2.2.2.2)) := by
        unfold fstep; rw [if_neg n300, hev]
      rw [hf] at go
      have o73 : gI M3 73 = gI M2 73 := ho3.g (by decide)
      have hR3 : Rf M M3 := hR2.trans ⟨ho3.mono (by simp), by rw [o73], by rw [o73], by rw [o73], by rw [o73]⟩
      refine go _ (hR3.up _ (Or.inr ⟨rfl, by simp⟩)) ⟨?_, ?_, ?_, ?_, ?_, ?_, ?_⟩
      · intro i i0 i1; simp only []; rw [← v2 i i0 i1, ← ho3.g (by decide), gI_ne _ _ _ _ (by decide)]
      · simp only []; rw [gI_nf _ _ (by decide), o73, s2]
      · intro i hi; rw [gI_ne _ _ _ _ (by decide), ho3.g (by decide)]; exact t2 i hi
      · simp only []; rw [gI_eq]
      · simp only []; rw [gI_nf _ _ (by decide), o73, r2]
      · simp only []; rw [gI_nf _ _ (by decide), o73, a2]
      · intro u u0 u1; rw [gI_nf _ _ (by decide), o73]; exact b2 u u0 u1
    · intro v hev M3 ho3 hv3
      rw [evx_congr v2 hE (fun m m1 m2 m5 => hW.2.2 m (by omega) (by omega) (Or.inl m5))] at hev
      rw [if_neg (by decide)]
      have hle := hE.le
      have ws : w32 (s + 1) = s + 1 := w32_id (by omega)
      rw [ws, hv3]
      refine ⟨⟨by omega, by omega⟩, ?_⟩
      have o73 : gI M3 73 = gI M2 73 := ho3.g (by decide)
      have hR3 : Rf M M3 := hR2.trans ⟨ho3.mono (by simp), by rw [o73], by rw [o73], by rw [o73], by rw [o73]⟩
      have hS3 := hR3.sm hS
      have hF3 := hR3.fm hF
      have v3 : ∀ j, 0 ≤ j → j < 9 → gI M3 74 j = σ.1 j := fun j j0 j1 => by rw [ho3.g (by decide)]; exact v2 j j0 j1
      have t3 : ∀ i : Nat, i < (σ.2.1 ++ [s]).length → gI M3 76 (i : Int) = (σ.2.1 ++ [s]).getD i 0 := fun i hi => by rw [ho3.g (by decide)]; exact t2 i hi
      apply k1_goOn_r
      refine ⟨⟨by omega, by omega⟩, ?_⟩
      rw [hS3 3 (by decide) (by decide), hS3 4 (by decide) (by decide), hS3 10 (by decide) (by decide)]
      by_cases k0 : P 3 s = 0
      · have hf : fstep P F s σ = (P 10 s, (fput σ.1 (P 4 s) v, σ.2.1 ++ [s], σ.2.2.1, σ.2.2.2.1, σ.2.2.2.2.1, s :: σ.2.2.2.2.2)) := by
          unfold fstep; rw [if_neg n300, hev]; simp only []; rw [if_pos k0]
        rw [hf] at go
        rw [if_pos k0]
        refine ⟨hW.2.2 s hst.1 hst.2.1 (Or.inr k0), go _ (hR3.up _ (Or.inl (by decide))) ⟨?_, ?_, ?_, ?_, ?_, ?_, ?_⟩⟩
        · intro j j0 j1; simp only []; rw [gI_fput]; unfold fput; by_cases hj : j.toNat = (P 4 s).toNat
          · rw [if_pos hj, if_pos hj]
          · rw [if_neg hj, if_neg hj]; exact v3 j j0 j1
        · simp only []; rw [gI_ne _ _ _ _ (by decide), o73, s2]
        · intro i hi; rw [gI_ne _ _ _ _ (by decide)]; exact t3 i hi
        · simp only []; rw [gI_ne _ _ _ _ (by decide), o73, h2]
        · simp only []; rw [gI_ne _ _ _ _ (by decide), o73, r2]
        · simp only []; rw [gI_ne _ _ _ _ (by decide), o73, a2]
        · intro u u0 u1; rw [gI_ne _ _ _ _ (by decide), o73]; exact b2 u u0 u1
      · rw [if_neg k0]
        by_cases k3 : P 3 s = 3
        · have hf : fstep P F s σ = (-1, (σ.1, σ.2.1 ++ [s], σ.2.2.1, v, σ.2.2.2.2.1, s :: σ.2.2.2.2.2)) := by
            unfold fstep; rw [if_neg n300, hev]; simp only []; rw [if_neg k0, if_pos k3]
          rw [hf] at go
          rw [if_pos k3]
          refine go _ (hR3.up _ (Or.inr ⟨rfl, by simp⟩)) ⟨?_, ?_, ?_, ?_, ?_, ?_, ?_⟩
          · intro i i0 i1; simp only []; rw [← v3 i i0 i1, gI_ne _ _ _ _ (by decide)]
          · simp only []; rw [gI_nf _ _ (by decide), o73, s2]
          · intro i hi; rw [gI_ne _ _ _ _ (by decide)]; exact t3 i hi
          · simp only []; rw [gI_nf _ _ (by decide), o73, h2]
          · simp only []; rw [gI_eq]
          · simp only []; rw [gI_nf _ _ (by decide), o73, a2]
          · intro u u0 u1; rw [gI_nf _ _ (by decide), o73]; exact b2 u u0 u1
        · rw [if_neg k3]
          have hf : fstep P F s σ = (if soP P F s v σ.2.2.2.2.1 = true then P 11 s else P 12 s, (σ.1, σ.2.1 ++ [s], σ.2.2.1, σ.2.2.2.1, σ.2.2.2.2.1 + 1, s :: σ.2.2.2.2.2)) := by
            unfold fstep; rw [if_neg n300, hev]; simp only []; rw [if_neg k0, if_neg k3]
          rw [hf] at go
          have a3 : gI M3 73 8 = σ.2.2.2.2.1 := by rw [o73, a2]
          have hask := hk.2
          have wa : w32 (σ.2.2.2.2.1 + 1) = σ.2.2.2.2.1 + 1 := w32_id (by omega)
          refine comesOutSo_r (P := P) (F := F) ⟨by omega, by omega⟩ (by rw [hS3 5 (by decide) (by decide)]) hF3 ?_
          rw [a3, wa]
          have hgo := go (upI M3 73 8 (σ.2.2.2.2.1 + 1)) (hR3.up _ (Or.inr ⟨rfl, by simp⟩)) ⟨by
            intro i i0 i1; simp only []; rw [← v3 i i0 i1, gI_ne _ _ _ _ (by decide)], by
            simp only []; rw [gI_nf _ _ (by decide), o73, s2], by
            intro i hi; rw [gI_ne _ _ _ _ (by decide)]; exact t3 i hi, by
            simp only []; rw [gI_nf _ _ (by decide), o73, h2], by
            simp only []; rw [gI_nf _ _ (by decide), o73, r2], by
            simp only []; rw [gI_eq], by
            intro u u0 u1; rw [gI_nf _ _ (by decide), o73]; exact b2 u u0 u1⟩
          have e11 : gI (upI M3 73 8 (σ.2.2.2.2.1 + 1)) 11 s = P 11 s := by rw [gI_ne _ _ _ _ (by decide), hS3 11 (by decide) (by decide)]
          have e12 : gI (upI M3 73 8 (σ.2.2.2.2.1 + 1)) 12 s = P 12 s := by rw [gI_ne _ _ _ _ (by decide), hS3 12 (by decide) (by decide)]
          rw [e11, e12]
          by_cases hso : soP P F s v σ.2.2.2.2.1 = true
          · rw [if_pos hso] at hgo ⊢
            rw [if_neg (by decide)]; exact hgo
          · rw [if_neg hso] at hgo ⊢
            rw [if_pos rfl]; exact hgo
/-- a run's beginning -/
def sg0 (vr : Int → Int) : Sg := (vr, [], 0, 0, 0, [])
/-- the variables at the beginning: what the test tells -/
def vr0 (row : Int → Int) : Int → Int := fun j => if j.toNat < 3 then row (j.toNat : Int) else 0
noncomputable def runP (P : Pg) (F : Fo) (row : Int → Int) : Sg := (flat P F 6321 0 (sg0 (vr0 row))).2
theorem passes_r {P : Pg} {F : Fo} (hW : PWr P) {t : Int} (ht : 0 ≤ t ∧ t < 16) {M : pm_M} {K : Int → pm_M → Prop} (hS : Sm P M) (hF : Fm F M)
    (hq : ∀ M', Rf M M' → Cr (runP P F (gI M (20 + t.toNat))) M' → K (okP (runP P F (gI M (20 + t.toNat))) (gI M (20 + t.toNat) 3)) M') : k1_passes t M K := by
  apply k1_passes_r
  refine fill_r (n := 9) s0_74 (by decide +kernel) (by decide) ?_
  refine ⟨ht, ?_⟩
  generalize hM1 : pm_nw M 74 (fun j => if j < 9 then (0 : Int) else M 74 j) = M1
  have ho1 : Off [73, 74, 75, 76] M M1 := by rw [← hM1]; exact Off.rf.nw (by decide) _
  generalize hM2 : pm_nw M1 74 (fun j => if 0 ≤ j ∧ j < 0 + 3 then M1 (20 + t.toNat) (0 + (j - 0)) else M1 74 j) = M2
  have hR2 : Rf M M2 := by
    have o2 : ∀ k, gI M2 73 k = gI M 73 k := by
      intro k
      rw [← hM2, gI_nwn _ _ _ (by decide), ← hM1, gI_nwn _ _ _ (by decide)]
    exact ⟨by rw [← hM2]; exact ho1.nw (by decide) _, o2 10, o2 11, o2 12, o2 13⟩
  have v2 : ∀ j, 0 ≤ j → j < 9 → gI M2 74 j = vr0 (gI M (20 + t.toNat)) j := by
    intro j j0 j1
    rw [← hM2, gI_nw]
    unfold vr0
    by_cases hj : j.toNat < 3
    · rw [if_pos ⟨Nat.zero_le _, by omega⟩, if_pos hj, ← hM1, pm_nw_ne (by omega)]
      show M (20 + t.toNat) (0 + (j.toNat - 0)) = M (20 + t.toNat) ((j.toNat : Int)).toNat
      rw [Int.toNat_natCast, Nat.zero_add, Nat.sub_zero]
    · rw [if_neg (by omega), if_neg hj, ← hM1, pm_nw_eq]
      exact if_pos (by omega)
  have hR3 : Rf M (upI (upI (upI (upI (upI M2 73 5 0) 73 6 0) 73 7 0) 73 8 0) 73 9 0) := ((((hR2.up _ (Or.inr ⟨rfl, by simp⟩)).up _ (Or.inr ⟨rfl, by simp⟩)).up _ (Or.inr ⟨rfl, by simp⟩)).up _ (Or.inr ⟨rfl, by simp⟩)).up _ (Or.inr ⟨rfl, by simp⟩)
  refine passes_loop hW ht 6321 0 0 (sg0 (vr0 (gI M (20 + t.toNat)))) _ (by decide) (by decide) (hR3.sm hS) (hR3.fm hF) ⟨?_, ?_, ?_, ?_, ?_, ?_, ?_⟩ ⟨Nat.zero_le _, Int.le_refl _, Int.le_refl _⟩ (fun M' hR' hC' => ?_)
  · intro j j0 j1
    rw [gI_ne _ _ _ _ (by decide), gI_ne _ _ _ _ (by decide), gI_ne _ _ _ _ (by decide), gI_ne _ _ _ _ (by decide), gI_ne _ _ _ _ (by decide)]
    exact v2 j j0 j1
  · rw [gI_nf _ _ (by decide), gI_nf _ _ (by decide), gI_nf _ _ (by decide), gI_nf _ _ (by decide), gI_eq]; rfl
  · intro i hi; exact absurd hi (Nat.not_lt_zero i)
  · rw [gI_nf _ _ (by decide), gI_nf _ _ (by decide), gI_nf _ _ (by decide), gI_eq]; rfl
  · rw [gI_nf _ _ (by decide), gI_nf _ _ (by decide), gI_eq]; rfl
  · rw [gI_nf _ _ (by decide), gI_eq]; rfl
  · intro u u0 u1
    rw [gI_eq]
    exact ⟨fun h => absurd h (bt_0 u0 u1), fun h => absurd h (by simp [sg0])⟩
  · have := hq M' (hR3.trans hR') hC'
    rw [show gI (upI (upI (upI (upI (upI M2 73 5 0) 73 6 0) 73 7 0) 73 8 0) 73 9 0) (20 + t.toNat) 3 = gI M (20 + t.toNat) 3 from congrFun (hR3.1.g (by simp; omega)) 3]
    exact this

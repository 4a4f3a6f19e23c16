-- needs 30 31 32 33a 33b 33c 33d 33e 33f 33g 33h 33i 33j 40 41 42 43 44
/-! the reference goes through the statements as the flat run does -/
def pre (k : Int) (σ : Sg) : Sg := (σ.1, σ.2.1 ++ [k], σ.2.2.1, σ.2.2.2.1, σ.2.2.2.2.1, k :: σ.2.2.2.2.2)
theorem pre_ok {k : Int} {σ : Sg} (h : Sok σ) (hl : σ.2.1.length < 300) : Sok (pre k σ) := by
  have e : (σ.2.1 ++ [k]).length = σ.2.1.length + 1 := by simp
  exact ⟨by show (σ.2.1 ++ [k]).length ≤ 300; omega, h.2.1, by show σ.2.2.2.2.1 ≤ ((σ.2.1 ++ [k]).length : Int); have := h.2.2; omega⟩
theorem step_Rr {k : Int} {σ : Sg} {M M1 : pm_M} (hR : Rr σ 0 M) (hk : 0 ≤ k ∧ k < 60) (hl : σ.2.1.length < 300) (hM : M1 = upI (upI (upI M 158 (gI M 142 28) k) 142 28 (w32 ((gI M 142 28) + 1))) 157 k (w32 ((gI M 157 k) + 1))) : Rr (pre k σ) 0 M1 ∧ Qf M M1 := by
  obtain ⟨rv, r28, rt, r29, r30, r34, r31, rc, rz⟩ := hR
  have e : (σ.2.1 ++ [k]).length = σ.2.1.length + 1 := by simp
  have hcle : σ.2.1.count k ≤ σ.2.1.length := List.count_le_length
  have w1 : w32 ((gI M 142 28) + 1) = gI M 142 28 + 1 := w32_id (by omega)
  have w2 : w32 ((gI M 157 k) + 1) = gI M 157 k + 1 := by
    rw [rc k hk.1 hk.2]; exact w32_id (by omega)
  rw [w1, w2] at hM
  subst hM
  refine ⟨⟨?_, ?_, ?_, ?_, ?_, ?_, ?_, ?_, rz.1, fun z => absurd rfl z⟩, ((Qf.rf.up _ (Or.inl (by decide))).up _ (Or.inr ⟨rfl, by simp⟩)).up _ (Or.inl (by decide))⟩
  · intro j j0 j1; rw [gI_ne _ _ _ _ (by decide), gI_ne _ _ _ _ (by decide), gI_ne _ _ _ _ (by decide)]; exact rv j j0 j1
  · rw [gI_ne _ _ _ _ (by decide), gI_eq, r28]; show _ = ((σ.2.1 ++ [k]).length : Int); omega
  · intro i hi
    have hi' : i < (σ.2.1 ++ [k]).length := hi
    rw [gI_ne _ _ _ _ (by decide), gI_ne _ _ _ _ (by decide), gI_up _ _ (by omega) (by omega)]
    show _ = (σ.2.1 ++ [k]).getD i 0
    by_cases hii : (i : Int) = gI M 142 28
    · have : i = σ.2.1.length := by omega
      subst this
      rw [if_pos hii]
      simp
    · rw [if_neg hii, rt i (by omega)]
      rw [List.getD_eq_getElem?_getD, List.getD_eq_getElem?_getD, List.getElem?_append_left (by omega)]
  · rw [gI_ne _ _ _ _ (by decide), gI_nf _ _ (by decide), gI_ne _ _ _ _ (by decide)]; exact r29
  · rw [gI_ne _ _ _ _ (by decide), gI_nf _ _ (by decide), gI_ne _ _ _ _ (by decide)]; exact r30
  · rw [gI_ne _ _ _ _ (by decide), gI_nf _ _ (by decide), gI_ne _ _ _ _ (by decide)]; exact r34
  · rw [gI_ne _ _ _ _ (by decide), gI_nf _ _ (by decide), gI_ne _ _ _ _ (by decide)]; exact r31
  · intro j j0 j1
    rw [gI_up _ _ (by omega) (by omega)]
    show _ = ((σ.2.1 ++ [k]).count j : Int)
    rw [List.count_append]
    by_cases hj : j = k
    · subst hj
      rw [if_pos rfl, rc j j0 j1]
      simp
    · rw [if_neg hj, gI_ne _ _ _ _ (by decide), gI_ne _ _ _ _ (by decide), rc j j0 j1]
      have : ¬ k = j := fun z => hj z.symm
      simp [List.count_cons, this]
def PO (P : Pg) (F : Fo) (s e : Int) (σ : Sg) (M : pm_M) (K : pm_M → Prop) : Prop := ∀ (M' : pm_M) (σ' : Sg) (ret : Int), Qf M M' → Rr σ' ret M' → Sok σ' → ((σ'.2.2.1 = 0 ∧ ret = 0 ∧ Rch P F s σ e σ') ∨ (¬ (σ'.2.2.1 = 0 ∧ ret = 0) ∧ (ret = 0 ∨ ret = 1) ∧ Rch P F s σ (-1) σ')) → K M'
theorem PO.step {P : Pg} {F : Fo} {s s1 e : Int} {σ σ1 : Sg} {M M1 : pm_M} {K : pm_M → Prop} (h : PO P F s e σ M K) (hQ : Qf M M1) (hr : Rch P F s σ s1 σ1) : PO P F s1 e σ1 M1 K := fun M' σ' ret q r o x => h M' σ' ret (hQ.trans q) r o (x.imp (fun z => ⟨z.1, z.2.1, hr.trans z.2.2⟩) (fun z => ⟨z.1, z.2.1, hr.trans z.2.2⟩))
/-- a crash -/
theorem Rr.crash {σ : Sg} {M : pm_M} (hR : Rr σ 0 M) : Rr (σ.1, σ.2.1, 1, σ.2.2.2.1, σ.2.2.2.2.1, σ.2.2.2.2.2) 0 (upI M 142 29 1) := by
  obtain ⟨rv, r28, rt, r29, r30, r34, r31, rc, rz⟩ := hR
  refine ⟨?_, ?_, ?_, ?_, ?_, ?_, ?_, ?_, rz.1, fun z => absurd rfl z⟩
  · intro j j0 j1; rw [gI_ne _ _ _ _ (by decide)]; exact rv j j0 j1
  · rw [gI_nf _ _ (by decide)]; exact r28
  · intro i hi; rw [gI_ne _ _ _ _ (by decide)]; exact rt i hi
  · rw [gI_eq]
  · rw [gI_nf _ _ (by decide)]; exact r30
  · rw [gI_nf _ _ (by decide)]; exact r34
  · rw [gI_nf _ _ (by decide)]; exact r31
  · intro j j0 j1; rw [gI_ne _ _ _ _ (by decide)]; exact rc j j0 j1
theorem Rr.hang {σ : Sg} {M : pm_M} {rc' : List Int} (hR : Rr σ 0 M) : Rr (σ.1, σ.2.1, 2, σ.2.2.2.1, σ.2.2.2.2.1, rc') 0 (upI M 142 29 2) := by
  obtain ⟨rv, r28, rt, r29, r30, r34, r31, rc, rz⟩ := hR
  refine ⟨?_, ?_, ?_, ?_, ?_, ?_, ?_, ?_, rz.1, fun z => absurd rfl z⟩
  · intro j j0 j1; rw [gI_ne _ _ _ _ (by decide)]; exact rv j j0 j1
  · rw [gI_nf _ _ (by decide)]; exact r28
  · intro i hi; rw [gI_ne _ _ _ _ (by decide)]; exact rt i hi
  · rw [gI_eq]
  · rw [gI_nf _ _ (by decide)]; exact r30
  · rw [gI_nf _ _ (by decide)]; exact r34
  · rw [gI_nf _ _ (by decide)]; exact r31
  · intro j j0 j1; rw [gI_ne _ _ _ _ (by decide)]; exact rc j j0 j1
theorem Rr.ask {σ : Sg} {M : pm_M} {x : Int} (hR : Rr σ 0 M) : Rr (σ.1, σ.2.1, σ.2.2.1, σ.2.2.2.1, x, σ.2.2.2.2.2) 0 (upI M 142 34 x) := by
  obtain ⟨rv, r28, rt, r29, r30, r34, r31, rc, rz⟩ := hR
  refine ⟨?_, ?_, ?_, ?_, ?_, ?_, ?_, ?_, rz.1, fun z => absurd rfl z⟩
  · intro j j0 j1; rw [gI_ne _ _ _ _ (by decide)]; exact rv j j0 j1
  · rw [gI_nf _ _ (by decide)]; exact r28
  · intro i hi; rw [gI_ne _ _ _ _ (by decide)]; exact rt i hi
  · rw [gI_nf _ _ (by decide)]; exact r29
  · rw [gI_nf _ _ (by decide)]; exact r30
  · rw [gI_eq]
  · rw [gI_nf _ _ (by decide)]; exact r31
  · intro j j0 j1; rw [gI_ne _ _ _ _ (by decide)]; exact rc j j0 j1
/-- the condition asked, ahead of the ways -/
theorem ask_r {P : Pg} {F : Fo} {M : pm_M} {K : Int → pm_M → Prop} {k : Int} {σ : Sg} (hW : PWr P) (hP : RP P M) (hF : FmR F M) (hs : isSt P k) (h5 : ¬ P 5 k = 1) (h0k : ¬ P 3 k = 0) (h3k : ¬ P 3 k = 3) (hR : Rr (pre k σ) 0 M) (how : σ.2.2.1 = 0) (hok : Sok σ) (hl : σ.2.1.length < 300)
    (hc : Rr (fstep P F k σ).2 0 (upI M 142 29 1) → (fstep P F k σ).1 = -1 → (fstep P F k σ).2.2.2.1 = 1 → K 0 (upI M 142 29 1))
    (hn : ∀ b M1, (b = 1 ∧ (fstep P F k σ).1 = P 11 k ∨ b = 0 ∧ (fstep P F k σ).1 = P 12 k) → Rr (fstep P F k σ).2 0 M1 → Qf M M1 → (fstep P F k σ).2.2.2.1 = 0 → K b M1) : k12_comesOut k M K := by
  have n300 : ¬ (300 : Nat) ≤ σ.2.1.length := by omega
  obtain ⟨f, hE, hlt⟩ := hW.2.1 k hs.1 hs.2.1 hs.2.2
  have hlen := hE.le
  have h60 := hW.1
  have hv : evx P (gI M 156) 60 (k + 1) = evx P σ.1 60 (k + 1) := evx_congr (fun j j0 j1 => hR.1 j j0 j1) hE (fun m m1 m2 m5 => hW.2.2 m (by have := hs.1; omega) (by omega) (Or.inl m5)) 60
  have h34 : gI M 142 34 = σ.2.2.2.2.1 := hR.2.2.2.2.2.1
  refine comesOut_r hW hP hF hs h5 (hR.2.2.2.1.trans how) ?_ ?_
  · intro hev
    rw [hv] at hev
    have hf : fstep P F k σ = (-1, (σ.1, σ.2.1 ++ [k], 1, σ.2.2.2.1, σ.2.2.2.2.1, k :: σ.2.2.2.2.2)) := by
      unfold fstep; rw [if_neg n300, hev]
    rw [hf] at hc
    exact hc hR.crash rfl rfl
  · intro v hev
    rw [hv] at hev
    have hf : fstep P F k σ = (if soP P F k v σ.2.2.2.2.1 = true then P 11 k else P 12 k, (σ.1, σ.2.1 ++ [k], σ.2.2.1, σ.2.2.2.1, σ.2.2.2.2.1 + 1, k :: σ.2.2.2.2.2)) := by
      unfold fstep; rw [if_neg n300, hev]; simp only []; rw [if_neg h0k, if_neg h3k]
    rw [hf] at hn
    have hask := hok.2
    rw [h34, w32_id (by omega)]
    refine hn _ _ ?_ hR.ask (Qf.rf.up _ (Or.inr ⟨rfl, by simp⟩)) how
    by_cases z : soP P F k v σ.2.2.2.2.1 = true
    · rw [if_pos z]; exact Or.inl ⟨rfl, if_pos z⟩
    · rw [if_neg z]; exact Or.inr ⟨rfl, if_neg z⟩
def GR (P : Pg) (F : Fo) (N : Nat) : Prop := ∀ (k p : Int) (h : Nat) (σ : Sg) (M : pm_M) (K : pm_M → Prop), (k = -1 ∨ (isSt P k ∧ P 6 k = p ∧ 60 - k ≤ N)) → 103 + 2 * N ≤ h → RP P M → FmR F M → Rr σ 0 M → σ.2.2.1 = 0 → Sok σ → PO P F (if k = -1 then cont P p else k) (cont P p) σ M K → k12_goesRow h k M K
def GS (P : Pg) (F : Fo) (N : Nat) : Prop := ∀ (k : Int) (h : Nat) (σ : Sg) (M : pm_M) (K : pm_M → Prop), isSt P k → ¬ P 5 k = 1 → 60 - k ≤ N → 102 + 2 * N ≤ h → RP P M → FmR F M → Rr σ 0 M → σ.2.2.1 = 0 → Sok σ → PO P F k (P 10 k) σ M K → k12_goes h k M K
theorem GR_of {P : Pg} {F : Fo} (hW : PWr P) (hs : PWs P) {N : Nat} (hG : GS P F N) : GR P F N := by
  intro k p h σ M K hk hh hP hF hR how hok hq
  apply k12_goesRow_r (by omega)
  have h60 := hW.1
  have loop : ∀ (n : Nat) (k : Int) (σ : Sg) (M : pm_M), (k = -1 ∨ (isSt P k ∧ P 6 k = p ∧ 60 - k ≤ N ∧ 60 - k ≤ n)) → RP P M → FmR F M → (∃ ret, Rr σ ret M ∧ Sok σ ∧ ((σ.2.2.1 = 0 ∧ ret = 0 ∧ PO P F (if k = -1 then cont P p else k) (cont P p) σ M K) ∨ (¬ (σ.2.2.1 = 0 ∧ ret = 0) ∧ (ret = 0 ∨ ret = 1) ∧ K M))) → k12_goesRow_2 h k M K := by
    intro n
    induction n with
    | zero =>
      intro k σ M hk hP hF hx
      apply k12_goesRow_2_r (by omega)
      rcases hk with hk | ⟨hk, -, -, hn⟩
      · rw [if_pos hk]
        obtain ⟨ret, hR, hok, ⟨h1, h2, hp⟩ | ⟨-, -, hK⟩⟩ := hx
        · rw [if_pos hk] at hp
          exact hp M σ ret Qf.rf hR hok (Or.inl ⟨h1, h2, Rch.rf⟩)
        · exact hK
      · have := hk.2.1; omega
    | succ n ih =>
      intro k σ M hk hP hF hx
      apply k12_goesRow_2_r (by omega)
      rcases hk with hk | ⟨hk, hp, hN, hn⟩
      · rw [if_pos hk]
        obtain ⟨ret, hR, hok, ⟨h1, h2, hp⟩ | ⟨-, -, hK⟩⟩ := hx
        · rw [if_pos hk] at hp
          exact hp M σ ret Qf.rf hR hok (Or.inl ⟨h1, h2, Rch.rf⟩)
        · exact hK
      · have hk0 := hk.1
        have hk1 := hk.2.1
        rw [if_neg (by omega)]
        obtain ⟨ret, hR, hok, ⟨h1, h2, hpo⟩ | ⟨hoff, hret, hK⟩⟩ := hx
        · subst h2
          rw [if_neg (by omega)] at hpo
          rw [if_pos (hR.2.2.2.1.trans h1), if_pos hR.2.2.2.2.2.2.1]
          refine ⟨⟨hk0, by omega⟩, ?_⟩
          obtain ⟨q3, q4, ⟨q7, q7', q5⟩, q1, q8, qs, qp⟩ := hP.2.2 k hk0 hk1
          obtain ⟨t0, tn, tb, te, tw, t10, t11, t12⟩ := hs k hk
          have m1 : P 5 k = 1 ↔ ¬ pm_iand (gI M 153 k) 1 ≤ 0 := by
            rw [q5]; unfold cm
            by_cases z : pm_iand (gI M 153 k) 1 ≤ 0
            · rw [if_pos z]
              refine ⟨fun w => ?_, fun w => absurd z w⟩
              split at w
              · split at w <;> omega
              · omega
            · rw [if_neg z]; exact ⟨fun _ => z, fun _ => rfl⟩
          -- the next one in the row
          have nxt : ∀ (σ1 : Sg) (M1 : pm_M), RP P M1 → FmR F M1 → Qf M M1 → (∃ ret, Rr σ1 ret M1 ∧ Sok σ1 ∧ ((σ1.2.2.1 = 0 ∧ ret = 0 ∧ PO P F (P 10 k) (cont P p) σ1 M1 K) ∨ (¬ (σ1.2.2.1 = 0 ∧ ret = 0) ∧ (ret = 0 ∨ ret = 1) ∧ K M1))) → k12_goesRow_2 h (gI M1 152 k) M1 K := by
            intro σ1 M1 hP1 hF1 hQ1 hx1
            rw [((hP1.2.2 k hk0 hk1).2.2.2.2.2.1 hk.2.2).1]
            have e : P 10 k = if P 20 k = -1 then cont P p else P 20 k := by rw [t10, hp]
            rw [e] at hx1
            refine ih (P 20 k) σ1 M1 ?_ hP1 hF1 hx1
            rcases tn with z | ⟨z1, z2, z3⟩
            · exact Or.inl z
            · have z4 : k + 1 ≤ P 20 k := z2
              exact Or.inr ⟨z1, z3.trans hp, by omega, by omega⟩
          by_cases z : pm_iand (gI M 153 k) 1 ≤ 0
          · rw [if_pos z]
            have h5 : ¬ P 5 k = 1 := fun w => m1.mp w z
            refine hG k (h - 1) σ M _ hk h5 hN (by omega) hP hF hR h1 hok ?_
            intro M' σ' ret' hQ' hR' hok' hc
            refine nxt σ' M' (hQ'.rp hP) (hQ'.fm hF) hQ' ⟨ret', hR', hok', ?_⟩
            rcases hc with ⟨c1, c2, c3⟩ | ⟨c1, c2, c3⟩
            · exact Or.inl ⟨c1, c2, hpo.step hQ' c3⟩
            · exact Or.inr ⟨c1, c2, hpo M' σ' ret' hQ' hR' hok' (Or.inr ⟨c1, c2, c3⟩)⟩
          · rw [if_neg z]
            have h5 : P 5 k = 1 := m1.mpr z
            exact nxt σ M hP hF Qf.rf ⟨0, hR, hok, Or.inl ⟨h1, rfl, hpo.step Qf.rf (Rch.skip hk h5)⟩⟩
        · by_cases y1 : gI M 142 29 = 0
          · rw [if_pos y1]
            by_cases y2 : gI M 142 31 = 0
            · exact absurd ⟨hR.2.2.2.1.symm.trans y1, hR.2.2.2.2.2.2.1.symm.trans y2⟩ hoff
            · rw [if_neg y2]; exact hK
          · rw [if_neg y1]; exact hK
  refine loop (60 - k).toNat k σ M (hk.imp_right (fun z => ⟨z.1, z.2.1, z.2.2, by omega⟩)) hP hF ⟨0, hR, hok, Or.inl ⟨how, rfl, hq⟩⟩
theorem fstep_len {P : Pg} {F : Fo} {s : Int} {σ : Sg} : σ.2.1.length ≤ (fstep P F s σ).2.2.1.length := by
  unfold fstep
  by_cases h : (300 : Nat) ≤ σ.2.1.length
  · rw [if_pos h]; exact Nat.le_refl _
  · rw [if_neg h]
    cases evx P σ.1 60 (s + 1) with
    | none => simp
    | some v =>
      simp only []
      by_cases k0 : P 3 s = 0
      · rw [if_pos k0]; simp
      · rw [if_neg k0]
        by_cases k3 : P 3 s = 3
        · rw [if_pos k3]; simp
        · rw [if_neg k3]; simp
theorem flat_len {P : Pg} {F : Fo} : ∀ (n : Nat) (s : Int) (σ : Sg), σ.2.1.length ≤ (flat P F n s σ).2.2.1.length := by
  intro n
  induction n with
  | zero => intro s σ; exact Nat.le_refl _
  | succ n ih =>
    intro s σ
    unfold flat
    split
    · split
      · exact ih _ _
      · exact Nat.le_trans fstep_len (ih _ _)
    · exact Nat.le_refl _
theorem Rch_len {P : Pg} {F : Fo} {s s' : Int} {σ σ' : Sg} (h : Rch P F s σ s' σ') : σ.2.1.length ≤ σ'.2.1.length := by
  obtain ⟨m, hm⟩ := h
  have h0 := hm 0
  have h1 := flat_len (P := P) (F := F) (0 + m) s σ
  rw [h0] at h1
  exact h1
theorem GS_of {P : Pg} {F : Fo} (hW : PWr P) (hs : PWs P) {N : Nat} (hG : GR P F N) : GS P F (N + 1) := by
  intro k h σ M K hk h5 hN hh hP hF hR how hok hq
  have h60 := hW.1
  have hk0 : 0 ≤ k := hk.1
  have hk1 : k < P 2 15 := hk.2.1
  have hk3 : P 3 k ≤ 3 := hk.2.2
  obtain ⟨t0, tn, tb, te, tw, t10, t11, t12⟩ := hs k hk
  obtain ⟨q3, q4, -, q1, -, qs, -⟩ := hP.2.2 k hk0 hk1
  obtain ⟨f, hE, hlt⟩ := hW.2.1 k hk0 hk1 hk3
  have hle := hE.le
  have hkk : 0 ≤ k ∧ k < 60 := ⟨hk0, by omega⟩
  have r28 := hR.2.1
  have hol := hok.1
  have hbl : P 21 k = -1 ∨ (isSt P (P 21 k) ∧ P 6 (P 21 k) = k ∧ 60 - P 21 k ≤ N) := by
    rcases tb with z | ⟨z1, z2, z3⟩
    · exact Or.inl z
    · exact Or.inr ⟨z1, z3, by omega⟩
  have hel : P 22 k = -1 ∨ (isSt P (P 22 k) ∧ P 6 (P 22 k) = k ∧ 60 - P 22 k ≤ N) := by
    rcases te with z | ⟨z1, z2, z3⟩
    · exact Or.inl z
    · exact Or.inr ⟨z1, z3, by omega⟩
  -- a statement that would be the 301st step
  have hang : ∀ (σ : Sg) (M : pm_M), Rr σ 0 M → Sok σ → PO P F k (P 10 k) σ M K → gI M 142 28 = 300 → K (upI M 142 29 2) := by
    intro σ M hR hok hq hl
    have hf : fstep P F k σ = (-1, (σ.1, σ.2.1, 2, σ.2.2.2.1, σ.2.2.2.2.1, k :: σ.2.2.2.2.2)) := by
      unfold fstep; rw [if_pos (by have := hR.2.1; omega)]
    have hst := Rch.step (F := F) (σ := σ) hk h5
    rw [hf] at hst
    exact hq _ _ 0 (Qf.rf.up _ (Or.inr ⟨rfl, by simp⟩)) (hR.hang (rc' := k :: σ.2.2.2.2.2)) hok (Or.inr ⟨fun z => by have := z.1; simp at this, Or.inl rfl, hst⟩)
  -- a loop's rounds
  have rounds : P 3 k = 2 → ∀ (n : Nat) (σ : Sg) (M : pm_M), σ.2.1.length < 300 → 300 - σ.2.1.length ≤ n → RP P M → FmR F M → Rr (pre k σ) 0 M → σ.2.2.1 = 0 → Sok σ → PO P F k (P 10 k) σ M K → k12_goes_176 h k M K := by
    intro hwh n
    induction n with
    | zero => intro σ M h1 h2; omega
    | succ n ih =>
      intro σ M hl hn hP hF hR how hok hq
      apply k12_goes_176_r (by omega)
      rw [if_pos (hR.2.2.2.1.trans how), if_pos hR.2.2.2.2.2.2.1]
      have hst := Rch.step (F := F) (σ := σ) hk h5
      have hfo := fstep_ok (P := P) (F := F) (s := k) hok
      have hfl : (fstep P F k σ).2.2.1 = σ.2.1 ++ [k] := by
        unfold fstep
        rw [if_neg (by omega)]
        cases evx P σ.1 60 (k + 1) with
        | none => rfl
        | some v =>
          simp only []
          rw [if_neg (by omega), if_neg (by omega)]
      refine ask_r hW hP hF hk h5 (by omega) (by omega) hR how hok hl ?_ ?_
      · intro c1 c2 c3
        rw [if_pos rfl]
        rw [c2] at hst
        exact hq _ _ 0 (Qf.rf.up _ (Or.inr ⟨rfl, by simp⟩)) c1 hfo (Or.inr ⟨fun z => by omega, Or.inl rfl, hst⟩)
      · intro b M1 hb c1 cq c2
        rcases hb with ⟨rfl, hb⟩ | ⟨rfl, hb⟩
        · rw [if_neg (by decide)]
          refine ⟨⟨hk0, by omega⟩, ?_⟩
          have hP1 := cq.rp hP
          rw [((hP1.2.2 k hk0 hk1).2.2.2.2.2.1 hk3).2.1]
          have hco : cont P k = k := by unfold cont; rw [if_neg (by omega), if_pos hwh]
          have hb' : (fstep P F k σ).1 = if P 21 k = -1 then cont P k else P 21 k := hb.trans t11
          rw [hb'] at hst
          refine hG (P 21 k) k (h - 1) _ M1 _ hbl (by omega) hP1 (cq.fm hF) c1 c2 hfo ?_
          intro M2 σ2 ret2 q2 r2 o2 x2
          rw [hco] at x2
          rcases x2 with ⟨y1, y2, y3⟩ | ⟨y1, y2, y3⟩
          · subst y2
            rw [if_pos (r2.2.2.2.1.trans y1), if_pos r2.2.2.2.2.2.2.1]
            have q12 := cq.trans q2
            rw [hco] at hst
            have hr2 : Rch P F k σ k σ2 := hst.trans y3
            have hq2 := hq.step q12 hr2
            by_cases hl2 : gI M2 142 28 = 300
            · rw [if_pos hl2]; exact hang σ2 M2 r2 o2 hq2 hl2
            · rw [if_neg hl2]
              have r228 := r2.2.1
              have o21 := o2.1
              refine ⟨⟨by omega, by omega⟩, hkk, ?_⟩
              obtain ⟨u1, u2⟩ := step_Rr r2 hkk (by omega) rfl
              have hmono : σ.2.1.length < σ2.2.1.length := by
                have := Rch_len y3
                rw [hfl] at this
                simp at this
                omega
              refine ih σ2 _ (by omega) (by omega) (u2.rp (q2.rp hP1)) (u2.fm (q2.fm (cq.fm hF))) u1 y1 o2 ?_
              exact fun M' σ' ret q r o x => hq2 M' σ' ret (u2.trans q) r o x
          · have hst' := hst
            have hK : K M2 := hq M2 σ2 ret2 (cq.trans q2) r2 o2 (Or.inr ⟨y1, y2, by rw [hco] at hst'; exact hst'.trans y3⟩)
            by_cases z1 : gI M2 142 29 = 0
            · rw [if_pos z1]
              by_cases z2 : gI M2 142 31 = 0
              · exact absurd ⟨r2.2.2.2.1.symm.trans z1, r2.2.2.2.2.2.2.1.symm.trans z2⟩ y1
              · rw [if_neg z2]; exact hK
            · rw [if_neg z1]; exact hK
        · rw [if_pos rfl]
          rw [hb, t12, if_pos (tw hwh)] at hst
          exact hq M1 _ 0 cq c1 hfo (Or.inl ⟨c2, rfl, hst⟩)
  apply k12_goes_r (by omega)
  by_cases hl : gI M 142 28 = 300
  · rw [if_pos hl]; exact hang σ M hR hok hq hl
  rw [if_neg hl]
  refine ⟨⟨by omega, by omega⟩, hkk, ?_⟩
  have hlen : σ.2.1.length < 300 := by omega
  have n300 : ¬ (300 : Nat) ≤ σ.2.1.length := by omega
  obtain ⟨u1, u2⟩ := step_Rr hR hkk hlen rfl
  generalize hM1 : upI (upI (upI M 158 (gI M 142 28) k) 142 28 (w32 ((gI M 142 28) + 1))) 157 k (w32 ((gI M 157 k) + 1)) = M1 at u1 u2 ⊢
  have hP1 := u2.rp hP
  have hF1 := u2.fm hF
  have hst := Rch.step (F := F) (σ := σ) hk h5
  have hfo := fstep_ok (P := P) (F := F) (s := k) hok
  have hv : evx P (gI M1 156) 60 (k + 1) = evx P σ.1 60 (k + 1) := evx_congr (fun j j0 j1 => u1.1 j j0 j1) hE (fun m m1 m2 m5 => hW.2.2 m (by omega) (by omega) (Or.inl m5)) 60
  have hvr : ∀ n, 0 ≤ n → n < P 2 15 → P 3 n = 5 → 0 ≤ P 4 n ∧ P 4 n < 9 := fun n n0 n1 n5 => hW.2.2 n n0 n1 (Or.inl n5)
  rw [q3]
  have hko : P 3 k = 0 ∨ P 3 k = 1 ∨ P 3 k = 2 ∨ P 3 k = 3 := by omega
  rcases hko with c | c | c | c
  · rw [c, if_pos rfl, q1 (by omega)]
    have hv4 := hW.2.2 k hk0 hk1 (Or.inr c)
    refine worth_r hP1 h60 hvr (u1.2.2.2.1.trans how) hE (by omega) hlt (by omega) ?_ ?_
    · intro v hev
      rw [hv] at hev
      have hf : fstep P F k σ = (P 10 k, (fput σ.1 (P 4 k) v, σ.2.1 ++ [k], σ.2.2.1, σ.2.2.2.1, σ.2.2.2.2.1, k :: σ.2.2.2.2.2)) := by
        unfold fstep; rw [if_neg n300, hev]; simp only []; rw [if_pos c]
      rw [hf] at hst hfo
      have e4 : gI M1 146 k = P 4 k := (hP1.2.2 k hk0 hk1).2.1 (Or.inl c)
      rw [if_pos (u1.2.2.2.1.trans how), e4]
      refine ⟨hv4, hq _ (fput σ.1 (P 4 k) v, σ.2.1 ++ [k], σ.2.2.1, σ.2.2.2.1, σ.2.2.2.2.1, k :: σ.2.2.2.2.2) 0 (u2.up _ (Or.inl (by decide))) ⟨?_, ?_, ?_, ?_, ?_, ?_, ?_, ?_, u1.2.2.2.2.2.2.2.2.1, fun z => absurd rfl z⟩ hfo (Or.inl ⟨how, rfl, hst⟩)⟩
      · intro j j0 j1
        rw [gI_fput]
        show fput (gI M1 156) (P 4 k) v j = fput σ.1 (P 4 k) v j
        unfold fput
        rw [show gI M1 156 j = σ.1 j from u1.1 j j0 j1]
      · rw [gI_ne _ _ _ _ (by decide)]; exact u1.2.1
      · intro i hi; rw [gI_ne _ _ _ _ (by decide)]; exact u1.2.2.1 i hi
      · rw [gI_ne _ _ _ _ (by decide)]; exact u1.2.2.2.1
      · rw [gI_ne _ _ _ _ (by decide)]; exact u1.2.2.2.2.1
      · rw [gI_ne _ _ _ _ (by decide)]; exact u1.2.2.2.2.2.1
      · rw [gI_ne _ _ _ _ (by decide)]; exact u1.2.2.2.2.2.2.1
      · intro j j0 j1; rw [gI_ne _ _ _ _ (by decide)]; exact u1.2.2.2.2.2.2.2.1 j j0 j1
    · intro hev x
      rw [hv] at hev
      have hf : fstep P F k σ = (-1, (σ.1, σ.2.1 ++ [k], 1, σ.2.2.2.1, σ.2.2.2.2.1, k :: σ.2.2.2.2.2)) := by
        unfold fstep; rw [if_neg n300, hev]
      rw [hf] at hst hfo
      have e4 : gI (upI M1 142 29 1) 146 k = P 4 k := by rw [gI_ne _ _ _ _ (by decide)]; exact (hP1.2.2 k hk0 hk1).2.1 (Or.inl c)
      rw [if_neg (by rw [gI_eq]; decide), e4]
      have hcr := u1.crash
      refine ⟨hv4, hq _ (σ.1, σ.2.1 ++ [k], 1, σ.2.2.2.1, σ.2.2.2.2.1, k :: σ.2.2.2.2.2) 0 ((u2.up _ (Or.inr ⟨rfl, by simp⟩)).up _ (Or.inl (by decide))) ⟨?_, ?_, ?_, ?_, ?_, ?_, ?_, ?_, u1.2.2.2.2.2.2.2.2.1, fun z => absurd rfl z⟩ hfo (Or.inr ⟨fun z => by have := z.1; simp at this, Or.inl rfl, hst⟩)⟩
      · intro j j0 j1
        rw [gI_up _ _ (by omega) j0]
        by_cases hj : j = P 4 k
        · rw [if_pos hj, ← hj]; exact hcr.1 j j0 j1
        · rw [if_neg hj]; exact hcr.1 j j0 j1
      · rw [gI_ne _ _ _ _ (by decide)]; exact hcr.2.1
      · intro i hi; rw [gI_ne _ _ _ _ (by decide)]; exact hcr.2.2.1 i hi
      · rw [gI_ne _ _ _ _ (by decide)]; exact hcr.2.2.2.1
      · rw [gI_ne _ _ _ _ (by decide)]; exact hcr.2.2.2.2.1
      · rw [gI_ne _ _ _ _ (by decide)]; exact hcr.2.2.2.2.2.1
      · rw [gI_ne _ _ _ _ (by decide)]; exact hcr.2.2.2.2.2.2.1
      · intro j j0 j1; rw [gI_ne _ _ _ _ (by decide)]; exact hcr.2.2.2.2.2.2.2.1 j j0 j1
  · rw [c, if_neg (by decide), if_pos rfl]
    refine ask_r hW hP1 hF1 hk h5 (by omega) (by omega) u1 how hok hlen ?_ ?_
    · intro c1 c2 c3
      rw [if_neg (by rw [gI_eq]; decide)]
      rw [c2] at hst
      exact hq _ _ 0 (u2.up _ (Or.inr ⟨rfl, by simp⟩)) c1 hfo (Or.inr ⟨fun z => by omega, Or.inl rfl, hst⟩)
    · intro b M2 hb c1 cq c2
      have hP2 := cq.rp hP1
      have hco : cont P k = P 10 k := by unfold cont; rw [if_neg (by omega), if_neg (by omega)]
      rw [if_pos (c1.2.2.2.1.trans c2)]
      obtain ⟨-, b2, b3⟩ := (hP2.2.2 k hk0 hk1).2.2.2.2.2.1 hk3
      rcases hb with ⟨rfl, hb⟩ | ⟨rfl, hb⟩
      · rw [if_neg (by decide), b2]
        rw [hb, t11] at hst
        refine hG (P 21 k) k (h - 1) _ M2 _ hbl (by omega) hP2 (cq.fm hF1) c1 c2 hfo ?_
        rw [hco] at hst ⊢
        exact hq.step (u2.trans cq) hst
      · rw [if_pos rfl, b3]
        rw [hb, t12] at hst
        refine hG (P 22 k) k (h - 1) _ M2 _ hel (by omega) hP2 (cq.fm hF1) c1 c2 hfo ?_
        rw [hco]
        exact hq.step (u2.trans cq) hst
  · rw [c, if_neg (by decide), if_neg (by decide), if_pos rfl]
    exact rounds c _ σ M1 hlen (Nat.le_refl _) hP1 hF1 u1 how hok (fun M' σ' ret q r o x => hq M' σ' ret (u2.trans q) r o x)
  · rw [c, if_neg (by decide), if_neg (by decide), if_neg (by decide), if_pos rfl, q1 (by omega)]
    refine worth_r hP1 h60 hvr (u1.2.2.2.1.trans how) hE (by omega) hlt (by omega) ?_ ?_
    · intro v hev
      rw [hv] at hev
      have hf : fstep P F k σ = (-1, (σ.1, σ.2.1 ++ [k], σ.2.2.1, v, σ.2.2.2.2.1, k :: σ.2.2.2.2.2)) := by
        unfold fstep; rw [if_neg n300, hev]; simp only []; rw [if_neg (by omega), if_pos c]
      rw [hf] at hst hfo
      rw [if_pos (u1.2.2.2.1.trans how)]
      refine hq _ (σ.1, σ.2.1 ++ [k], σ.2.2.1, v, σ.2.2.2.2.1, k :: σ.2.2.2.2.2) 1 ((u2.up _ (Or.inr ⟨rfl, by simp⟩)).up _ (Or.inr ⟨rfl, by simp⟩)) ⟨?_, ?_, ?_, ?_, ?_, ?_, ?_, ?_, fun z => absurd z (by decide), fun _ => how⟩ hfo (Or.inr ⟨fun z => absurd z.2 (by decide), Or.inr rfl, hst⟩)
      · intro j j0 j1; rw [gI_ne _ _ _ _ (by decide), gI_ne _ _ _ _ (by decide)]; exact u1.1 j j0 j1
      · rw [gI_nf _ _ (by decide), gI_nf _ _ (by decide)]; exact u1.2.1
      · intro i hi; rw [gI_ne _ _ _ _ (by decide), gI_ne _ _ _ _ (by decide)]; exact u1.2.2.1 i hi
      · rw [gI_nf _ _ (by decide), gI_nf _ _ (by decide)]; exact u1.2.2.2.1
      · rw [gI_nf _ _ (by decide), gI_eq]
      · rw [gI_nf _ _ (by decide), gI_nf _ _ (by decide)]; exact u1.2.2.2.2.2.1
      · rw [gI_eq]
      · intro j j0 j1; rw [gI_ne _ _ _ _ (by decide), gI_ne _ _ _ _ (by decide)]; exact u1.2.2.2.2.2.2.2.1 j j0 j1
    · intro hev x
      rw [hv] at hev
      have hf : fstep P F k σ = (-1, (σ.1, σ.2.1 ++ [k], 1, σ.2.2.2.1, σ.2.2.2.2.1, k :: σ.2.2.2.2.2)) := by
        unfold fstep; rw [if_neg n300, hev]
      rw [hf] at hst hfo
      rw [if_neg (by rw [gI_eq]; decide)]
      have hcr := u1.crash
      have hz : σ.2.2.2.1 = 0 := u1.2.2.2.2.2.2.2.2.1 rfl
      refine hq _ (σ.1, σ.2.1 ++ [k], 1, σ.2.2.2.1, σ.2.2.2.2.1, k :: σ.2.2.2.2.2) 0 (((u2.up _ (Or.inr ⟨rfl, by simp⟩)).up _ (Or.inr ⟨rfl, by simp⟩)).up _ (Or.inr ⟨rfl, by simp⟩)) ⟨?_, ?_, ?_, ?_, ?_, ?_, ?_, ?_, fun _ => hz, fun z => absurd rfl z⟩ hfo (Or.inr ⟨fun z => by have := z.1; simp at this, Or.inl rfl, hst⟩)
      · intro j j0 j1; rw [gI_ne _ _ _ _ (by decide), gI_ne _ _ _ _ (by decide)]; exact hcr.1 j j0 j1
      · rw [gI_nf _ _ (by decide), gI_nf _ _ (by decide)]; exact hcr.2.1
      · intro i hi; rw [gI_ne _ _ _ _ (by decide), gI_ne _ _ _ _ (by decide)]; exact hcr.2.2.1 i hi
      · rw [gI_nf _ _ (by decide), gI_nf _ _ (by decide)]; exact hcr.2.2.2.1
      · rw [gI_nf _ _ (by decide), gI_eq]; exact hz.symm
      · rw [gI_nf _ _ (by decide), gI_nf _ _ (by decide)]; exact hcr.2.2.2.2.2.1
      · rw [gI_eq]
      · intro j j0 j1; rw [gI_ne _ _ _ _ (by decide), gI_ne _ _ _ _ (by decide)]; exact hcr.2.2.2.2.2.2.2.1 j j0 j1
theorem GR_all {P : Pg} {F : Fo} (hW : PWr P) (hs : PWs P) : ∀ N, GR P F N := by
  intro N
  induction N with
  | zero =>
    refine GR_of hW hs ?_
    intro k h σ M K hk h5 hN
    have h1 : k < P 2 15 := hk.2.1
    have h2 := hW.1
    omega
  | succ N ih => exact GR_of hW hs (GS_of hW hs ih)

-- needs 30 31 32 33a 33b 33c 33d 33e 33f 33g 33h 33i 33j 40 41 42 43 44 45
/-! a run's end; the reference's runs by a test -/
/-- statements around, ends (24), ranks (23) -/
def PWt (P : Pg) : Prop := (∀ s, isSt P s → (P 6 s = -1 ∨ (isSt P (P 6 s) ∧ P 6 s < s ∧ P 24 s ≤ P 24 (P 6 s))) ∧ s < P 24 s ∧ (P 20 s = -1 ∨ P 24 s ≤ P 20 s) ∧ 0 ≤ P 23 s ∧ P 23 s < 20 ∧ ∀ s', isSt P s' → s < s' → P 23 s < P 23 s') ∧ (0 < P 2 15 → isSt P 0 ∧ P 6 0 = -1)
def NL (P : Pg) : Nat → Int → Prop
  | 0, _ => True
  | f + 1, s => P 6 s = -1 ∨ (¬ P 5 (P 6 s) = 1 ∧ NL P f (P 6 s))
/-- no statement around is left out -/
def NLa (P : Pg) (s : Int) : Prop := ∀ f, NL P f s
theorem NLa.up {P : Pg} {s : Int} (h : NLa P s) (hp : ¬ P 6 s = -1) : ¬ P 5 (P 6 s) = 1 ∧ NLa P (P 6 s) := by
  have h1 : ∀ f, ¬ P 5 (P 6 s) = 1 ∧ NL P f (P 6 s) := fun f => (h (f + 1)).resolve_left hp
  exact ⟨(h1 0).1, fun f => (h1 f).2⟩
theorem NLa.of {P : Pg} {s : Int} (h : P 6 s = -1 ∨ (¬ P 5 (P 6 s) = 1 ∧ NLa P (P 6 s))) : NLa P s := by
  intro f
  cases f with
  | zero => trivial
  | succ f => exact h.imp_right (fun z => ⟨z.1, z.2 f⟩)
theorem NLa.after {P : Pg} (hs : PWs P) (ht : PWt P) : ∀ (n : Nat) (s : Int), s.toNat ≤ n → isSt P s → NLa P s → P 10 s = -1 ∨ (isSt P (P 10 s) ∧ NLa P (P 10 s) ∧ (P 24 s ≤ P 10 s ∨ ¬ P 5 (P 10 s) = 1)) := by
  intro n
  induction n with
  | zero =>
    intro s hn hst hN
    have s0 : 0 ≤ s := hst.1
    obtain ⟨tp, te, tx, -⟩ := ht.1 s hst
    obtain ⟨-, tn, -, -, -, t10, -, -⟩ := hs s hst
    rcases tn with z | ⟨z1, z2, z3⟩
    · rw [t10, if_pos z]
      rcases tp with q | ⟨q1, q2, -⟩
      · left; unfold cont; rw [if_pos q]
      · have : 0 ≤ P 6 s := q1.1
        omega
    · rw [t10, if_neg (by have : 0 ≤ P 20 s := z1.1; omega)]
      refine Or.inr ⟨z1, NLa.of ?_, Or.inl (tx.resolve_left (by have : 0 ≤ P 20 s := z1.1; omega))⟩
      rw [z3]
      by_cases q : P 6 s = -1
      · exact Or.inl q
      · exact Or.inr (hN.up q)
  | succ n ih =>
    intro s hn hst hN
    have s0 : 0 ≤ s := hst.1
    obtain ⟨tp, te, tx, -⟩ := ht.1 s hst
    obtain ⟨-, tn, -, -, -, t10, -, -⟩ := hs s hst
    rcases tn with z | ⟨z1, z2, z3⟩
    · rw [t10, if_pos z]
      rcases tp with q | ⟨q1, q2, q3⟩
      · left; unfold cont; rw [if_pos q]
      · have hp0 : 0 ≤ P 6 s := q1.1
        have hup := hN.up (by omega)
        unfold cont
        rw [if_neg (by omega)]
        by_cases w : P 3 (P 6 s) = 2
        · rw [if_pos w]; exact Or.inr ⟨q1, hup.2, Or.inr hup.1⟩
        · rw [if_neg w]
          rcases ih (P 6 s) (by omega) q1 hup.2 with y | ⟨y1, y2, y3⟩
          · exact Or.inl y
          · refine Or.inr ⟨y1, y2, y3.imp_left (fun y => by omega)⟩
    · rw [t10, if_neg (by have : 0 ≤ P 20 s := z1.1; omega)]
      refine Or.inr ⟨z1, NLa.of ?_, Or.inl (tx.resolve_left (by have : 0 ≤ P 20 s := z1.1; omega))⟩
      rw [z3]
      by_cases q : P 6 s = -1
      · exact Or.inl q
      · exact Or.inr (hN.up q)
theorem fstep_at {P : Pg} {F : Fo} {s : Int} {σ : Sg} : (fstep P F s σ).1 = -1 ∨ (((fstep P F s σ).1 = P 10 s ∨ (¬ P 3 s = 0 ∧ ((fstep P F s σ).1 = P 11 s ∨ (fstep P F s σ).1 = P 12 s))) ∧ σ.2.1.length < 300 ∧ (fstep P F s σ).2.2.1.length = σ.2.1.length + 1) := by
  unfold fstep
  by_cases h : (300 : Nat) ≤ σ.2.1.length
  · rw [if_pos h]; exact Or.inl rfl
  · rw [if_neg h]
    cases evx P σ.1 60 (s + 1) with
    | none => exact Or.inl rfl
    | some v =>
      simp only []
      by_cases k0 : P 3 s = 0
      · rw [if_pos k0]; exact Or.inr ⟨Or.inl rfl, by omega, by simp⟩
      · rw [if_neg k0]
        by_cases k3 : P 3 s = 3
        · rw [if_pos k3]; exact Or.inl rfl
        · rw [if_neg k3]
          refine Or.inr ⟨Or.inr ⟨k0, ?_⟩, by omega, by simp⟩
          by_cases z : soP P F s v σ.2.2.2.2.1 = true
          · rw [if_pos z]; exact Or.inl rfl
          · rw [if_neg z]; exact Or.inr rfl
/-- where the flat run is, no statement around is left out -/
theorem fstep_NL {P : Pg} {F : Fo} (hs : PWs P) (ht : PWt P) {s : Int} {σ : Sg} (hst : isSt P s) (h5 : ¬ P 5 s = 1) (hN : NLa P s) : (fstep P F s σ).1 = -1 ∨ (isSt P (fstep P F s σ).1 ∧ NLa P (fstep P F s σ).1) := by
  have s0 : 0 ≤ s := hst.1
  obtain ⟨-, tn, tb, te, tw, t10, t11, t12⟩ := hs s hst
  have ha := (NLa.after hs ht s.toNat s (Nat.le_refl _) hst hN).imp_right (fun z => (⟨z.1, z.2.1⟩ : isSt P (P 10 s) ∧ NLa P (P 10 s)))
  have kid : ∀ c, P 6 c = s → NLa P c := fun c hc => NLa.of (Or.inr (by rw [hc]; exact ⟨h5, hN⟩))
  have hcont : cont P s = -1 ∨ (isSt P (cont P s) ∧ NLa P (cont P s)) := by
    unfold cont
    rw [if_neg (by omega)]
    by_cases w : P 3 s = 2
    · rw [if_pos w]; exact Or.inr ⟨hst, hN⟩
    · rw [if_neg w]; exact ha
  rcases fstep_at (P := P) (F := F) (s := s) (σ := σ) with h | ⟨h | ⟨-, h | h⟩, -, -⟩
  · exact Or.inl h
  · rw [h]; exact ha
  · rw [h, t11]
    rcases tb with z | ⟨z1, z2, z3⟩
    · rw [if_pos z]; exact hcont
    · rw [if_neg (by have : 0 ≤ P 21 s := z1.1; omega)]; exact Or.inr ⟨z1, kid _ z3⟩
  · rw [h, t12]
    rcases te with z | ⟨z1, z2, z3⟩
    · rw [if_pos z]; exact ha
    · rw [if_neg (by have : 0 ≤ P 22 s := z1.1; omega)]; exact Or.inr ⟨z1, kid _ z3⟩
theorem flat_end {P : Pg} {F : Fo} (hs : PWs P) (ht : PWt P) : ∀ (n : Nat) (s : Int) (σ : Sg), σ.2.1.length ≤ 300 → (s = -1 ∨ (isSt P s ∧ NLa P s ∧ 21 * (301 - (σ.2.1.length : Int)) - (if P 5 s = 1 then P 23 s else 20) ≤ n)) → (flat P F n s σ).1 = -1 := by
  intro n
  induction n with
  | zero =>
    intro s σ hl hx
    rcases hx with h | ⟨h1, -, h2⟩
    · exact h
    · obtain ⟨-, -, -, r0, r1, -⟩ := ht.1 s h1
      split at h2 <;> omega
  | succ n ih =>
    intro s σ hl hx
    rcases hx with h | ⟨h1, h2, h3⟩
    · unfold flat; rw [if_neg (by omega)]; exact h
    · unfold flat
      rw [if_pos (show 0 ≤ s ∧ s < P 2 15 ∧ P 3 s ≤ 3 from h1)]
      obtain ⟨-, te, -, r0, r1, r2⟩ := ht.1 s h1
      by_cases h5 : P 5 s = 1
      · rw [if_pos h5] at h3 ⊢
        refine ih _ σ hl ?_
        rcases NLa.after hs ht s.toNat s (Nat.le_refl _) h1 h2 with y | ⟨y1, y2, y3⟩
        · exact Or.inl y
        · refine Or.inr ⟨y1, y2, ?_⟩
          by_cases z : P 5 (P 10 s) = 1
          · rw [if_pos z]
            have := r2 _ y1 (by rcases y3 with y3 | y3 <;> omega)
            omega
          · rw [if_neg z]; omega
      · rw [if_neg h5] at h3 ⊢
        have hat := fstep_at (P := P) (F := F) (s := s) (σ := σ)
        rcases fstep_NL (F := F) (σ := σ) hs ht h1 h5 h2 with y | ⟨y1, y2⟩
        · rw [y]
          cases n with
          | zero => rfl
          | succ n => unfold flat; rw [if_neg (by omega)]
        · rcases hat with z | ⟨-, z1, z2⟩
          · rw [z] at y1; exact absurd y1.1 (by omega)
          · obtain ⟨-, -, -, r0', r1', -⟩ := ht.1 _ y1
            refine ih _ _ (by omega) (Or.inr ⟨y1, y2, ?_⟩)
            rw [z2]
            split <;> omega
theorem flat_succ {P : Pg} {F : Fo} (n : Nat) (s : Int) (σ : Sg) : flat P F (n + 1) s σ = if 0 ≤ s ∧ s < P 2 15 ∧ P 3 s ≤ 3 then (if P 5 s = 1 then flat P F n (P 10 s) σ else flat P F n (fstep P F s σ).1 (fstep P F s σ).2) else (s, σ) := rfl
theorem flat_no {P : Pg} {F : Fo} {s : Int} (h : ¬ (0 ≤ s ∧ s < P 2 15 ∧ P 3 s ≤ 3)) (n : Nat) (σ : Sg) : flat P F n s σ = (s, σ) := by
  cases n with
  | zero => rfl
  | succ n => rw [flat_succ, if_neg h]
theorem flat_add {P : Pg} {F : Fo} : ∀ (m n : Nat) (s : Int) (σ : Sg), flat P F (m + n) s σ = flat P F n (flat P F m s σ).1 (flat P F m s σ).2 := by
  intro m
  induction m with
  | zero => intro n s σ; rw [Nat.zero_add]; rfl
  | succ m ih =>
    intro n s σ
    rw [Nat.succ_add]
    by_cases h : 0 ≤ s ∧ s < P 2 15 ∧ P 3 s ≤ 3
    · by_cases h5 : P 5 s = 1
      · have e1 : ∀ k, flat P F (k + 1) s σ = flat P F k (P 10 s) σ := fun k => by rw [flat_succ, if_pos h, if_pos h5]
        rw [show Nat.succ (m + n) = (m + n) + 1 from rfl, e1, e1]
        exact ih _ _ _
      · have e1 : ∀ k, flat P F (k + 1) s σ = flat P F k (fstep P F s σ).1 (fstep P F s σ).2 := fun k => by rw [flat_succ, if_pos h, if_neg h5]
        rw [show Nat.succ (m + n) = (m + n) + 1 from rfl, e1, e1]
        exact ih _ _ _
    · rw [flat_no h, flat_no h, flat_no h]
theorem flat_m1 {P : Pg} {F : Fo} (n : Nat) (σ : Sg) : flat P F n (-1) σ = (-1, σ) := by
  cases n with
  | zero => rfl
  | succ n => unfold flat; rw [if_neg (by omega)]
/-- a run that comes to its end is the flat run -/
theorem run_of {P : Pg} {F : Fo} (hs : PWs P) (ht : PWt P) (h0 : 0 < P 2 15) {σ σ' : Sg} (hl : σ.2.1.length = 0) (h : Rch P F 0 σ (-1) σ') : (flat P F 6321 0 σ).2 = σ' := by
  have he : (flat P F 6321 0 σ).1 = -1 := by
    obtain ⟨q1, q2⟩ := ht.2 h0
    refine flat_end hs ht 6321 0 σ (by omega) (Or.inr ⟨q1, NLa.of (Or.inl q2), ?_⟩)
    obtain ⟨-, -, -, r0, r1, -⟩ := ht.1 0 q1
    rw [hl]
    split <;> omega
  obtain ⟨m, hm⟩ := h
  have h1 := hm 6321
  have h2 := flat_add (P := P) (F := F) 6321 m 0 σ
  rw [h1, he, flat_m1, flat_m1] at h2
  exact (congrArg Prod.snd h2).symm
/-- the reference's runs of a test: 5 t + k of the row of all tests -/
def rrow (M : pm_M) (t : Int) : Int → Int := fun j => gI M 154 (5 * t + (j.toNat : Int))
theorem runs_r {P : Pg} {F : Fo} (hW : PWr P) (hs : PWs P) (ht : PWt P) (hp0 : 0 < P 2 15) {t : Int} (ht' : 0 ≤ t ∧ t < 16) {M : pm_M} {K : pm_M → Prop} (hP : RP P M) (hF : FmR F M)
    (hq : ∀ M', Qf M M' → (∃ ret, Rr (runP P F (rrow M t)) ret M') → Sok (runP P F (rrow M t)) → K M') : k12_runs t M K := by
  apply k12_runs_r
  -- the variables
  have l1 : ∀ (n : Nat) (k : Int) (M1 : pm_M), k + n = 9 → 0 ≤ k → Qf M M1 → (∀ j, 0 ≤ j → j < k → gI M1 156 j = vr0 (rrow M t) j) → (∀ M2, Qf M M2 → (∀ j, 0 ≤ j → j < 9 → gI M2 156 j = vr0 (rrow M t) j) → k12_runs_41 0 M2 K) → k12_runs_2 t k M1 K := by
    intro n
    induction n with
    | zero =>
      intro k M1 hk k0 hQ hj hn
      apply k12_runs_2_r
      rw [if_neg (by omega)]
      exact hn M1 hQ (fun j j0 j1 => hj j j0 (by omega))
    | succ n ih =>
      intro k M1 hk k0 hQ hj hn
      apply k12_runs_2_r
      rw [if_pos (by omega)]
      have wk : w32 (k + 1) = k + 1 := w32_id (by omega)
      have wt : w32 (w32 (5 * t) + k) = 5 * t + k := by rw [w32_id (show -2147483648 ≤ 5 * t ∧ 5 * t < 2147483648 by omega), w32_id (by omega)]
      rw [wk, wt]
      by_cases h3 : k < 3
      · rw [if_pos h3]
        refine ⟨⟨by omega, by omega⟩, ⟨k0, by omega⟩, ?_⟩
        refine ih (k + 1) _ (by omega) (by omega) (hQ.up _ (Or.inl (by decide))) (fun j j0 j1 => ?_) hn
        rw [gI_up _ _ k0 j0]
        by_cases hjk : j = k
        · subst hjk
          rw [if_pos rfl]
          unfold vr0 rrow
          rw [if_pos (by omega), hQ.1.g (by decide), Int.toNat_of_nonneg k0, Int.toNat_of_nonneg k0]
        · rw [if_neg hjk]; exact hj j j0 (by omega)
      · rw [if_neg h3]
        refine ⟨⟨k0, by omega⟩, ?_⟩
        refine ih (k + 1) _ (by omega) (by omega) (hQ.up _ (Or.inl (by decide))) (fun j j0 j1 => ?_) hn
        rw [gI_up _ _ k0 j0]
        by_cases hjk : j = k
        · subst hjk
          rw [if_pos rfl]
          unfold vr0
          rw [if_neg (by omega)]
        · rw [if_neg hjk]; exact hj j j0 (by omega)
  -- the times, and the run
  have l2 : ∀ (n : Nat) (k : Int) (M1 : pm_M), k + n = 60 → 0 ≤ k → Qf M M1 → (∀ j, 0 ≤ j → j < 9 → gI M1 156 j = vr0 (rrow M t) j) → (∀ j, 0 ≤ j → j < k → gI M1 157 j = 0) → k12_runs_41 k M1 K := by
    intro n
    induction n with
    | zero =>
      intro k M1 hk k0 hQ hv hj
      apply k12_runs_41_r
      rw [if_neg (by omega)]
      generalize hM2 : upI (upI (upI (upI (upI M1 142 28 0) 142 34 0) 142 29 0) 142 30 0) 142 31 0 = M2
      have hQ2 : Qf M M2 := by
        rw [← hM2]
        exact ((((hQ.up _ (Or.inr ⟨rfl, by simp⟩)).up _ (Or.inr ⟨rfl, by simp⟩)).up _ (Or.inr ⟨rfl, by simp⟩)).up _ (Or.inr ⟨rfl, by simp⟩)).up _ (Or.inr ⟨rfl, by simp⟩)
      have hR2 : Rr (sg0 (vr0 (rrow M t))) 0 M2 := by
        refine ⟨?_, ?_, ?_, ?_, ?_, ?_, ?_, ?_, fun _ => rfl, fun z => absurd rfl z⟩
        · intro j j0 j1
          rw [← hM2, gI_ne _ _ _ _ (by decide), gI_ne _ _ _ _ (by decide), gI_ne _ _ _ _ (by decide), gI_ne _ _ _ _ (by decide), gI_ne _ _ _ _ (by decide)]
          exact hv j j0 j1
        · rw [← hM2, gI_nf _ _ (by decide), gI_nf _ _ (by decide), gI_nf _ _ (by decide), gI_nf _ _ (by decide), gI_eq]; rfl
        · intro i hi; exact absurd hi (Nat.not_lt_zero i)
        · rw [← hM2, gI_nf _ _ (by decide), gI_nf _ _ (by decide), gI_eq]; rfl
        · rw [← hM2, gI_nf _ _ (by decide), gI_eq]; rfl
        · rw [← hM2, gI_nf _ _ (by decide), gI_nf _ _ (by decide), gI_nf _ _ (by decide), gI_eq]; rfl
        · rw [← hM2, gI_eq]
        · intro j j0 j1
          rw [← hM2, gI_ne _ _ _ _ (by decide), gI_ne _ _ _ _ (by decide), gI_ne _ _ _ _ (by decide), gI_ne _ _ _ _ (by decide), gI_ne _ _ _ _ (by decide)]
          rw [hj j j0 (by omega)]; rfl
      obtain ⟨q1, q2⟩ := ht.2 hp0
      refine GR_all hW hs 60 0 (-1) 300 (sg0 (vr0 (rrow M t))) M2 _ (Or.inr ⟨q1, q2, by decide⟩) (by decide) (hQ2.rp hP) (hQ2.fm hF) hR2 rfl ⟨Nat.zero_le _, Int.le_refl _, Int.le_refl _⟩ ?_
      intro M3 σ3 ret q3 r3 o3 x3
      have hc1 : cont P (-1) = -1 := by unfold cont; rw [if_pos rfl]
      have hr : Rch P F 0 (sg0 (vr0 (rrow M t))) (-1) σ3 := by
        rcases x3 with ⟨-, -, h⟩ | ⟨-, -, h⟩
        · rw [hc1] at h; exact h
        · exact h
      have hrun := run_of hs ht hp0 rfl hr
      have hrun' : runP P F (rrow M t) = σ3 := hrun
      rw [hrun'] at hq
      have hQ3 := hQ2.trans q3
      by_cases z : gI M3 142 29 = 0
      · rw [if_pos z]
        have e : upI M3 142 30 (gI M3 142 30) = M3 := by
          funext b j
          show (if b = 142 ∧ j = (30 : Int).toNat then M3 142 (30 : Int).toNat else M3 b j) = M3 b j
          by_cases hb : b = 142 ∧ j = (30 : Int).toNat
          · rw [if_pos hb, hb.1, hb.2]
          · rw [if_neg hb]
        rw [e]
        exact hq M3 hQ3 ⟨ret, r3⟩ o3
      · rw [if_neg z]
        have hret : ret = 0 := by
          by_cases y : ret = 0
          · exact y
          · exact absurd (r3.2.2.2.1.trans (r3.2.2.2.2.2.2.2.2.2 y)) z
        have hres := r3.2.2.2.2.2.2.2.2.1 hret
        refine hq _ (hQ3.up _ (Or.inr ⟨rfl, by simp⟩)) ⟨ret, ?_, ?_, ?_, ?_, ?_, ?_, ?_, ?_, r3.2.2.2.2.2.2.2.2⟩ o3
        · intro j j0 j1; rw [gI_ne _ _ _ _ (by decide)]; exact r3.1 j j0 j1
        · rw [gI_nf _ _ (by decide)]; exact r3.2.1
        · intro i hi; rw [gI_ne _ _ _ _ (by decide)]; exact r3.2.2.1 i hi
        · rw [gI_nf _ _ (by decide)]; exact r3.2.2.2.1
        · rw [gI_eq]; exact hres.symm
        · rw [gI_nf _ _ (by decide)]; exact r3.2.2.2.2.2.1
        · rw [gI_nf _ _ (by decide)]; exact r3.2.2.2.2.2.2.1
        · intro j j0 j1; rw [gI_ne _ _ _ _ (by decide)]; exact r3.2.2.2.2.2.2.2.1 j j0 j1
    | succ n ih =>
      intro k M1 hk k0 hQ hv hj
      apply k12_runs_41_r
      rw [if_pos (by omega), w32_id (show -2147483648 ≤ k + 1 ∧ k + 1 < 2147483648 by omega)]
      refine ⟨⟨k0, by omega⟩, ?_⟩
      refine ih (k + 1) _ (by omega) (by omega) (hQ.up _ (Or.inl (by decide))) (fun j j0 j1 => by rw [gI_ne _ _ _ _ (by decide)]; exact hv j j0 j1) (fun j j0 j1 => ?_)
      rw [gI_up _ _ k0 j0]
      by_cases hjk : j = k
      · rw [if_pos hjk]
      · rw [if_neg hjk]; exact hj j j0 (by omega)
  exact l1 9 0 M (by decide) (by decide) Qf.rf (fun j j0 j1 => by omega) (fun M2 hQ hv => l2 60 0 M2 (by decide) (by decide) hQ hv (fun j j0 j1 => by omega))
theorem rpasses_r {P : Pg} {F : Fo} (hW : PWr P) (hs : PWs P) (ht : PWt P) (hp0 : 0 < P 2 15) {t : Int} (ht' : 0 ≤ t ∧ t < 16) {M : pm_M} {K : Int → pm_M → Prop} (hP : RP P M) (hF : FmR F M)
    (hq : ∀ M', Qf M M' → (∃ ret, Rr (runP P F (rrow M t)) ret M') → Sok (runP P F (rrow M t)) → K (okP (runP P F (rrow M t)) (rrow M t 3)) M') : k12_passes t M K := by
  apply k12_passes_r
  refine runs_r hW hs ht hp0 ht' hP hF (fun M' hQ hR hS => ?_)
  have hK := hq M' hQ hR hS
  obtain ⟨ret, hR⟩ := hR
  have wt : w32 (w32 (5 * t) + 3) = 5 * t + 3 := by rw [w32_id (show -2147483648 ≤ 5 * t ∧ 5 * t < 2147483648 by omega), w32_id (by omega)]
  have e154 : gI M' 154 (5 * t + 3) = rrow M t 3 := by rw [hQ.1.g (by decide)]; rfl
  rw [wt, e154, hR.2.2.2.1, hR.2.2.2.2.1]
  unfold okP at hK
  by_cases z : (runP P F (rrow M t)).2.2.1 = 0
  · rw [if_pos z] at hK ⊢
    exact ⟨⟨by omega, by omega⟩, pm_ifK hK⟩
  · rw [if_neg z] at hK ⊢
    exact hK

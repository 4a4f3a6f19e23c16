-- needs 30 31 32 33a 33b 33c 33d 33e 33f 33g 33h 33i 33j 40 41 42 43
/-! the reference's run by a test -/
/-- a class's mark out of the reference's -/
def cm (b : Int) : Int := if pm_iand b 1 ≤ 0 then (if pm_iand b 2 ≤ 0 then (if pm_iand b 4 ≤ 0 then 0 else 3) else 2) else 1
def RP (P : Pg) (M : pm_M) : Prop := gI M 144 0 = P 2 15 ∧ gI M 144 1 = P 2 16 ∧ ∀ n, 0 ≤ n → n < P 2 15 → gI M 145 n = P 3 n ∧ (P 3 n = 0 ∨ P 3 n = 4 ∨ P 3 n = 5 ∨ P 3 n = 7 → gI M 146 n = P 4 n) ∧ ((P 3 n = 7 → gI M 153 n = 0 ∨ gI M 153 n = 4) ∧ (P 3 n ≠ 7 → 0 ≤ gI M 153 n ∧ gI M 153 n < 4) ∧ P 5 n = cm (gI M 153 n)) ∧ (P 3 n ≤ 3 ∨ P 3 n = 6 ∨ P 3 n = 7 → gI M 148 n = n + 1) ∧ (P 3 n = 7 → gI M 149 n = P 8 n) ∧ (P 3 n ≤ 3 → gI M 152 n = P 20 n ∧ gI M 150 n = P 21 n ∧ gI M 151 n = P 22 n) ∧ gI M 147 n = P 6 n
def rfL : List Nat := [142, 156, 157, 158]
theorem RP.off {P : Pg} {M M' : pm_M} {l : List Nat} (h : RP P M) (ho : Off l M M') (hl : ∀ a ∈ l, a ∉ [144, 145, 146, 147, 148, 149, 150, 151, 152, 153]) : RP P M' := by
  have g : ∀ a, a ∈ [144, 145, 146, 147, 148, 149, 150, 151, 152, 153] → gI M' a = gI M a := fun a ha => ho.g (fun z => hl a z ha)
  unfold RP
  rw [g 144 (by decide), g 145 (by decide), g 146 (by decide), g 147 (by decide), g 148 (by decide), g 149 (by decide), g 150 (by decide), g 151 (by decide), g 152 (by decide), g 153 (by decide)]
  exact h
theorem joined_r {s l r : Int} {M : pm_M} {K : Int → pm_M → Prop} (h0 : r = 0 ∧ (s = 3 ∨ s = 4) → K 0 (upI M 142 29 1)) (hq : ¬ (r = 0 ∧ (s = 3 ∨ s = 4)) → K (comb s l r) M) : k12_joined s l r M K := by
  have rest : ¬ (r = 0 ∧ (s = 3 ∨ s = 4)) → k12_joined_21 s l r M K := by
    intro h
    have hq := hq h
    apply k12_joined_21_r
    by_cases e0 : s = 0
    · subst e0; exact hq
    by_cases e1 : s = 1
    · subst e1; exact hq
    by_cases e2 : s = 2
    · subst e2; exact hq
    by_cases e3 : s = 3
    · subst e3; exact ⟨fun z => h ⟨z, Or.inl rfl⟩, hq⟩
    by_cases e4 : s = 4
    · subst e4; exact ⟨fun z => h ⟨z, Or.inr rfl⟩, hq⟩
    by_cases e5 : s = 5
    · subst e5; exact pm_ifK hq
    by_cases e6 : s = 6
    · subst e6; exact pm_ifK hq
    by_cases e7 : s = 7
    · subst e7; exact pm_ifK hq
    by_cases e8 : s = 8
    · subst e8; exact pm_ifK hq
    by_cases e9 : s = 9
    · subst e9; exact pm_ifK hq
    unfold comb at hq
    rw [if_neg e0, if_neg e1, if_neg e2, if_neg e3, if_neg e4, if_neg e5, if_neg e6, if_neg e7, if_neg e8, if_neg e9] at hq ⊢
    exact pm_ifK hq
  apply k12_joined_r
  by_cases hr : r = 0
  · by_cases e3 : s = 3
    · rw [if_pos e3, if_pos hr]; exact h0 ⟨hr, Or.inl e3⟩
    · rw [if_neg e3]
      by_cases e4 : s = 4
      · rw [if_pos e4, if_pos hr]; exact h0 ⟨hr, Or.inr e4⟩
      · rw [if_neg e4]; exact rest (fun z => z.2.elim e3 e4)
  · have := rest (fun z => hr z.1)
    simp only [if_neg hr]
    split
    · exact this
    · split
      · exact this
      · exact this
theorem worth_r {P : Pg} {M : pm_M} (hR : RP P M) (h60 : P 2 15 ≤ 60) (hv : ∀ n, 0 ≤ n → n < P 2 15 → P 3 n = 5 → 0 ≤ P 4 n ∧ P 4 n < 9) (hw : gI M 142 29 = 0) : ∀ {f : Nat} {n e : Int} {h : Nat} {K : Int → pm_M → Prop}, Ex P f n e → 0 ≤ n → e < P 2 15 → 20 + (e - n) ≤ h →
    (∀ v, evx P (gI M 156) 60 n = some v → K v M) → (evx P (gI M 156) 60 n = none → ∀ x, K x (upI M 142 29 1)) → k12_worth h n M K := by
  intro f
  induction f with
  | zero => intro n e h K hE; exact hE.elim
  | succ f ih =>
    intro n e h K hE hn he hh h1 h0
    have hle := hE.le
    have hat := evx_at (vr := gI M 156) hE hn (by omega)
    obtain ⟨q3, q4, ⟨q7, -, q5⟩, q1, q8, -, -⟩ := hR.2.2 n hn (by omega)
    have hu : gI (upI M 142 29 1) 142 29 = 1 := gI_eq _ _ _ _
    apply k12_worth_r (by omega)
    refine ⟨⟨by omega, by omega⟩, ?_⟩
    rw [q3]
    rcases hE with ⟨hk, hx⟩ | ⟨hk, hx⟩ | ⟨hk, hx⟩ | ⟨hk, ha, hb⟩
    · rw [if_pos hk, q4 (by omega)]
      rw [if_pos hk] at hat
      exact h1 _ hat
    · rw [hk] at hat ⊢
      rw [if_neg (by decide), if_pos rfl] at hat ⊢
      rw [q4 (by omega)]
      exact ⟨hv n hn (by omega) hk, h1 _ hat⟩
    · have := hx.le
      rw [hk] at hat ⊢
      rw [if_neg (by decide), if_neg (by decide), if_pos rfl] at hat ⊢
      rw [q1 (by omega)]
      refine ⟨⟨by omega, by omega⟩, ?_⟩
      have m1 : P 5 n = 1 ↔ ¬ pm_iand (gI M 153 n) 1 ≤ 0 := by
        rw [q5]; unfold cm
        by_cases z : pm_iand (gI M 153 n) 1 ≤ 0
        · rw [if_pos z]
          refine ⟨fun w => ?_, fun w => absurd z w⟩
          split at w
          · split at w <;> omega
          · omega
        · rw [if_neg z]; exact ⟨fun _ => z, fun _ => rfl⟩
      by_cases z : pm_iand (gI M 153 n) 1 ≤ 0
      · rw [if_pos z]
        refine ih hx (by omega) he (by omega) ?_ ?_
        · intro v hev
          refine h1 _ ?_
          rw [hat, hev]
          simp only [Option.map_some, if_neg (fun w => m1.mp w z)]
        · intro hev x
          exact h0 (by rw [hat, hev]; rfl) _
      · rw [if_neg z]
        refine ih hx (by omega) he (by omega) ?_ ?_
        · intro v hev
          refine h1 _ ?_
          rw [hat, hev]
          simp only [Option.map_some, if_pos (m1.mpr z)]
        · intro hev x
          exact h0 (by rw [hat, hev]; rfl) _
    · have hla := ha.le
      have hlb := hb.le
      rw [hk] at hat ⊢
      rw [if_neg (by decide), if_neg (by decide), if_neg (by decide)] at hat ⊢
      rw [q1 (by omega), q8 hk]
      refine ⟨⟨by omega, by omega⟩, ?_⟩
      have fin : ∀ l r : Int, (if r = 0 ∧ (P 4 n = 3 ∨ P 4 n = 4) then evx P (gI M 156) 60 n = none else evx P (gI M 156) 60 n = some (comb (P 4 n) l r)) → k12_joined (gI M 146 n) l r M (fun y M' => K y M') := by
        intro l r hq
        rw [q4 (by omega)]
        refine joined_r ?_ ?_
        · intro z; rw [if_pos z] at hq; exact h0 hq _
        · intro z; rw [if_neg z] at hq; exact h1 _ hq
      rcases q7 hk with z | z
      · have m5 : ¬ P 5 n = 3 := by rw [q5, z]; decide
        rw [z, if_pos (by decide)]
        refine ih ha (by omega) (by omega) (by omega) ?_ ?_
        · intro a hea
          rw [if_pos hw, q8 hk]
          refine ih hb (by omega) he (by omega) ?_ ?_
          · intro b heb
            rw [if_pos hw]
            refine fin _ _ ?_
            rw [hat, hea, heb]
            simp only [cmb, if_neg m5]
            split <;> rfl
          · intro heb x
            rw [if_neg (by rw [hu]; decide)]
            exact h0 (by rw [hat, hea, heb]) _
        · intro hea x
          rw [if_neg (by rw [hu]; decide)]
          exact h0 (by rw [hat, hea]) _
      · have m5 : P 5 n = 3 := by rw [q5, z]; decide
        rw [z, if_neg (by decide)]
        refine ih hb (by omega) he (by omega) ?_ ?_
        · intro b heb
          rw [if_pos hw, q1 (by omega)]
          refine ih ha (by omega) (by omega) (by omega) ?_ ?_
          · intro a hea
            rw [if_pos hw]
            refine fin _ _ ?_
            rw [hat, hea, heb]
            simp only [cmb, if_pos m5]
            split <;> rfl
          · intro hea x
            rw [if_neg (by rw [hu]; decide)]
            exact h0 (by rw [hat, hea]) _
        · intro heb x
          rw [if_neg (by rw [hu]; decide)]
          refine h0 ?_ _
          rw [hat, heb]
          cases evx P (gI M 156) 60 (n + 1) <;> rfl
/-- the flat run comes from one place to another -/
def Rch (P : Pg) (F : Fo) (s : Int) (σ : Sg) (s' : Int) (σ' : Sg) : Prop := ∃ m : Nat, ∀ n, flat P F (n + m) s σ = flat P F n s' σ'
theorem Rch.rf {P : Pg} {F : Fo} {s : Int} {σ : Sg} : Rch P F s σ s σ := ⟨0, fun _ => rfl⟩
theorem Rch.trans {P : Pg} {F : Fo} {s s' s'' : Int} {σ σ' σ'' : Sg} (h : Rch P F s σ s' σ') (h' : Rch P F s' σ' s'' σ'') : Rch P F s σ s'' σ'' := by
  obtain ⟨m, hm⟩ := h
  obtain ⟨k, hk⟩ := h'
  refine ⟨k + m, fun n => ?_⟩
  rw [← Nat.add_assoc, hm, hk]
theorem Rch.skip {P : Pg} {F : Fo} {s : Int} {σ : Sg} (hs : isSt P s) (h5 : P 5 s = 1) : Rch P F s σ (P 10 s) σ := by
  refine ⟨1, fun n => ?_⟩
  show (if 0 ≤ s ∧ s < P 2 15 ∧ P 3 s ≤ 3 then (if P 5 s = 1 then flat P F n (P 10 s) σ else flat P F n (fstep P F s σ).1 (fstep P F s σ).2) else (s, σ)) = _
  rw [if_pos (show 0 ≤ s ∧ s < P 2 15 ∧ P 3 s ≤ 3 from hs), if_pos h5]
theorem Rch.step {P : Pg} {F : Fo} {s : Int} {σ : Sg} (hs : isSt P s) (h5 : ¬ P 5 s = 1) : Rch P F s σ (fstep P F s σ).1 (fstep P F s σ).2 := by
  refine ⟨1, fun n => ?_⟩
  show (if 0 ≤ s ∧ s < P 2 15 ∧ P 3 s ≤ 3 then (if P 5 s = 1 then flat P F n (P 10 s) σ else flat P F n (fstep P F s σ).1 (fstep P F s σ).2) else (s, σ)) = _
  rw [if_pos (show 0 ≤ s ∧ s < P 2 15 ∧ P 3 s ≤ 3 from hs), if_neg h5]
/-- what comes when a row of statements is over -/
def cont (P : Pg) (p : Int) : Int := if p = -1 then -1 else if P 3 p = 2 then p else P 10 p
/-- the statements and their ways -/
def PWs (P : Pg) : Prop := ∀ s, isSt P s → 0 ≤ P 3 s ∧ (P 20 s = -1 ∨ (isSt P (P 20 s) ∧ s < P 20 s ∧ P 6 (P 20 s) = P 6 s)) ∧ (P 21 s = -1 ∨ (isSt P (P 21 s) ∧ s < P 21 s ∧ P 6 (P 21 s) = s)) ∧ (P 22 s = -1 ∨ (isSt P (P 22 s) ∧ s < P 22 s ∧ P 6 (P 22 s) = s)) ∧ (P 3 s = 2 → P 22 s = -1) ∧ P 10 s = (if P 20 s = -1 then cont P (P 6 s) else P 20 s) ∧ P 11 s = (if P 21 s = -1 then cont P s else P 21 s) ∧ P 12 s = (if P 22 s = -1 then P 10 s else P 22 s)
def Rr (σ : Sg) (ret : Int) (M : pm_M) : Prop := (∀ j, 0 ≤ j → j < 9 → gI M 156 j = σ.1 j) ∧ gI M 142 28 = (σ.2.1.length : Int) ∧ (∀ i : Nat, i < σ.2.1.length → gI M 158 (i : Int) = σ.2.1.getD i 0) ∧ gI M 142 29 = σ.2.2.1 ∧ gI M 142 30 = σ.2.2.2.1 ∧ gI M 142 34 = σ.2.2.2.2.1 ∧ gI M 142 31 = ret ∧ (∀ k, 0 ≤ k → k < 60 → gI M 157 k = (σ.2.1.count k : Int)) ∧ (ret = 0 → σ.2.2.2.1 = 0) ∧ (ret ≠ 0 → σ.2.2.1 = 0)
def Qf (M M' : pm_M) : Prop := Off [142, 156, 157, 158] M M' ∧ ∀ k : Int, 0 ≤ k → k ≠ 28 → k ≠ 29 → k ≠ 30 → k ≠ 31 → k ≠ 34 → gI M' 142 k = gI M 142 k
theorem Qf.rf {M : pm_M} : Qf M M := ⟨Off.rf, fun _ _ _ _ _ _ _ => rfl⟩
theorem Qf.trans {M M' M'' : pm_M} (h : Qf M M') (h' : Qf M' M'') : Qf M M'' := ⟨h.1.trans h'.1, fun k a b c d e f => (h'.2 k a b c d e f).trans (h.2 k a b c d e f)⟩
theorem Qf.up {M M' : pm_M} (h : Qf M M') {a : Nat} {i : Int} (v : Int) (ha : a ∈ [156, 157, 158] ∨ (a = 142 ∧ (i = 28 ∨ i = 29 ∨ i = 30 ∨ i = 31 ∨ i = 34))) : Qf M (upI M' a i v) := by
  have hm : a ∈ [142, 156, 157, 158] := by
    rcases ha with ha | ⟨rfl, -⟩
    · exact List.mem_cons_of_mem _ ha
    · exact List.mem_cons_self
  refine ⟨h.1.up hm _ _, fun k k0 b c d e f => ?_⟩
  rw [← h.2 k k0 b c d e f]
  rcases ha with ha | ⟨rfl, hi⟩
  · refine gI_ne _ _ _ _ (fun z => ?_)
    subst z
    revert ha; decide
  · exact gI_nf _ _ (by omega)
theorem Qf.rp {M M' : pm_M} {P : Pg} (h : Qf M M') (hR : RP P M) : RP P M' := hR.off h.1 (by decide)
def FmR (F : Fo) (M : pm_M) : Prop := gI M 142 36 = F.1 ∧ (0 ≤ F.1 → gI M 142 37 = F.2.1) ∧ gI M 142 35 = F.2.2 ∧ (F.2.1 = 0 ∨ F.2.1 = 1)
theorem Qf.fm {M M' : pm_M} {F : Fo} (h : Qf M M') (hF : FmR F M) : FmR F M' := ⟨(h.2 36 (by decide) (by decide) (by decide) (by decide) (by decide) (by decide)).trans hF.1, fun z => (h.2 37 (by decide) (by decide) (by decide) (by decide) (by decide) (by decide)).trans (hF.2.1 z), (h.2 35 (by decide) (by decide) (by decide) (by decide) (by decide) (by decide)).trans hF.2.2.1, hF.2.2.2⟩
theorem comesOut_r {P : Pg} {F : Fo} {M : pm_M} {K : Int → pm_M → Prop} {s : Int} (hW : PWr P) (hR : RP P M) (hF : FmR F M) (hs : isSt P s) (h5 : ¬ P 5 s = 1) (hw : gI M 142 29 = 0)
    (h0 : evx P (gI M 156) 60 (s + 1) = none → K 0 (upI M 142 29 1)) (h1 : ∀ v, evx P (gI M 156) 60 (s + 1) = some v → K (if soP P F s v (gI M 142 34) = true then 1 else 0) (upI M 142 34 (w32 (gI M 142 34 + 1)))) : k12_comesOut s M K := by
  obtain ⟨s0, s1, s3⟩ := hs
  have h60 := hW.1
  obtain ⟨f, hE, hlt⟩ := hW.2.1 s s0 s1 s3
  have hle := hE.le
  obtain ⟨q3, q4, ⟨q7, q7', q5⟩, q1, q8, -, -⟩ := hR.2.2 s s0 s1
  have hbb := q7' (by omega)
  have m2 : P 5 s = 2 ↔ ¬ pm_iand (gI M 153 s) 2 ≤ 0 := by
    rw [q5] at h5 ⊢
    have hb4 : gI M 153 s = 0 ∨ gI M 153 s = 1 ∨ gI M 153 s = 2 ∨ gI M 153 s = 3 := by omega
    rcases hb4 with z | z | z | z <;> rw [z] at h5 ⊢
    · decide
    · exact absurd (by decide) h5
    · decide
    · exact absurd (by decide) h5
  apply k12_comesOut_r
  refine ⟨⟨s0, by omega⟩, ?_⟩
  rw [q1 (by omega)]
  refine worth_r hR h60 (fun n n0 n1 n5 => hW.2.2 n n0 n1 (Or.inl n5)) hw hE (by omega) hlt (by omega) ?_ ?_
  · intro v hev
    have hq := h1 v hev
    rw [if_pos hw]
    rw [hF.1, hF.2.2.1]
    have h11 : s = F.1 → gI M 142 37 = F.2.1 := fun z => hF.2.1 (by omega)
    have h01 := hF.2.2.2
    clear hF h1 h0 q5 q7 q7' hR
    obtain ⟨f, g, l⟩ := F
    simp only [] at h01 h11 hq ⊢
    unfold soP at hq
    simp only [] at hq
    generalize gI M 142 34 = ask at hq ⊢
    generalize upI M 142 34 (w32 (ask + 1)) = M1 at hq ⊢
    generalize gI M 142 37 = g' at h11 ⊢
    by_cases h3 : s = f
    · rw [h11 h3]
      by_cases h2 : P 5 s = 2
      · rw [if_neg (m2.mp h2), if_neg (m2.mp h2)]
        rcases h01 with rfl | rfl <;> by_cases h1 : v = 0 <;> by_cases h4 : ask = l <;> simp [h1, h2, h3, h4] at hq ⊢ <;> (first | exact ⟨by omega, hq⟩ | (refine ⟨by omega, ?_⟩; simpa [h1, h2, h3, h4] using hq))
      · have z : pm_iand (gI M 153 s) 2 ≤ 0 := Decidable.not_not.mp (fun w => h2 (m2.mpr w))
        rw [if_pos z, if_pos z]
        rcases h01 with rfl | rfl <;> by_cases h1 : v = 0 <;> by_cases h4 : ask = l <;> simp [h1, h2, h3, h4] at hq ⊢ <;> (first | exact ⟨by omega, hq⟩ | (refine ⟨by omega, ?_⟩; simpa [h1, h2, h3, h4] using hq))
    · by_cases h2 : P 5 s = 2
      · rw [if_neg (m2.mp h2), if_neg (m2.mp h2)]
        by_cases h1 : v = 0 <;> by_cases h4 : ask = l <;> simp [h1, h2, h3, h4] at hq ⊢ <;> (first | exact ⟨by omega, hq⟩ | (refine ⟨by omega, ?_⟩; simpa [h1, h2, h3, h4] using hq))
      · have z : pm_iand (gI M 153 s) 2 ≤ 0 := Decidable.not_not.mp (fun w => h2 (m2.mpr w))
        rw [if_pos z, if_pos z]
        by_cases h1 : v = 0 <;> by_cases h4 : ask = l <;> simp [h1, h2, h3, h4] at hq ⊢ <;> (first | exact ⟨by omega, hq⟩ | (refine ⟨by omega, ?_⟩; simpa [h1, h2, h3, h4] using hq))
  · intro hev x
    rw [if_neg (by rw [gI_eq]; decide)]
    exact h0 hev

-- needs 30 31 32 33a 33b 33c 33d 33e 33f 33g 33h 33i 33j 40 41 42 43 44 45 46 50 51 52 53 54 79a 79aa 79b 79c 79d 79e 79g 79h 79i
/-! the reference joins sides -/
def Hid (p : Prop) : Prop := p
theorem joins_r {L : Int → Int} {N d p : Int} {S : Ps} {M : pm_M} {K : Int → pm_M → Prop} {k g : Nat} (hv : LV L N d S M) (hk : k < S.2.length) (hp : p < (k : Int)) (hX : XB M g (k : Int) ((S.2.length : Int) - 1)) (h4 : S.1.2.2.1 = 4)
    (h1 : (adv (ub L) N S.1).2.2.2.2 = 0 → ∀ M', Fr (qE k) M M' → LV L N d (adv (ub L) N S.1, ins S.2 k (7, S.1.2.2.2.1)) M' → gI M' 147 (100 + (k : Int)) = p → gI M' 145 (100 + (k : Int)) = 7 → gI M' 148 (100 + (k : Int)) = (k : Int) + 1 → gI M' 149 (100 + (k : Int)) = (S.2.length : Int) + 1 → gI M' 147 (100 + ((k : Int) + 1)) = (k : Int) → XB M' g ((k : Int) + 1) (S.2.length : Int) → K (k : Int) M')
    (h2 : ¬ (adv (ub L) N S.1).2.2.2.2 = 0 → ∀ M', Fr (qE k) M M' → TpR L N M' → Pnd M' (adv (ub L) N S.1).2.1 → (adv (ub L) N S.1).2.2.2.2 = 8 * (adv (ub L) N S.1).2.1 + 1 → K (k : Int) M') : k12_joins (k : Int) p M K := by
  obtain ⟨⟨hT, hr, hR⟩, hw, e8, e20, h0, hS, hl, hpl⟩ := hv
  have hE : Hid (gI M 142 8 = 0 ∧ gI M 142 20 = d) := ⟨e8, e20⟩
  clear e8 e20
  have n6 := hT.2.1.2
  have hpp := hS.1
  apply k12_joins_r
  rw [hr.2.2.2.2.1 h4]
  refine signOf_r ?_
  rw [so_vcd (hS.2.2.2.2.1 h4)]
  refine addsAhead_r hk (by omega) hR hp (fun j j0 j1 r hr' => ?_) (fun M1 f1 o1 r1 a7 a8 a9 a7' b1 b2 => ?_)
  · have h := hw j j1
    rcases hr' with rfl | rfl | rfl <;> omega
  have hA : Hid (gI M1 147 (100 + (k : Int)) = p ∧ gI M1 148 (100 + (k : Int)) = (k : Int) + 1 ∧ gI M1 149 (100 + (k : Int)) = -1 ∧ gI M1 147 (100 + ((k : Int) + 1)) = (k : Int)) := ⟨a7, a8, a9, a7'⟩
  clear a7 a8 a9 a7'
  have hlen := ins_len (x := (7, S.1.2.2.2.1)) (show k ≤ S.2.length by omega)
  have k145 : Hid (gI M1 145 (100 + (k : Int)) = 7) := by
    have h := (r1.2 k (by omega)).1
    rw [ins_get (by omega), if_neg (Nat.lt_irrefl _), if_pos rfl] at h
    exact h
  have xb1 : XB M1 g ((k : Int) + 1) ((S.2.length : Int) - 1 + 1) := hX.shift (Int.le_refl _) (fun j j0 j1 => b1 j j0 (by omega)) (fun j j0 j1 => b2 j j0 (by omega))
  rw [show (S.2.length : Int) - 1 + 1 = (S.2.length : Int) by omega] at xb1
  have w1 : RW (ins S.2 k (7, S.1.2.2.2.1)) M1 := by
    intro i hi
    rw [hlen] at hi ⊢
    by_cases a : i < k
    · have h := hw i (by omega)
      rw [f1.g (by simp [qE]; omega), f1.g (by simp [qE]; omega), f1.g (by simp [qE]; omega)]
      exact ⟨by omega, by omega, by omega⟩
    by_cases b : i = k
    · subst b; rw [hA.1, hA.2.1, hA.2.2.1]; exact ⟨by omega, by omega, by omega⟩
    · have h := hw (i - 1) (by omega)
      rw [show (((i - 1 : Nat)) : Int) = (i : Int) - 1 by omega] at h
      have q1 := b1 ((i : Int) - 1) (by omega) (by omega)
      rw [show (i : Int) - 1 + 1 = (i : Int) by omega] at q1
      have q7'' : gI M1 147 (100 + (i : Int)) ≤ ((S.2.length + 1 : Nat) : Int) := by
        by_cases e : i = k + 1
        · subst e
          rw [show (((k + 1 : Nat)) : Int) = (k : Int) + 1 by omega, hA.2.2.2]; omega
        · have q2 := b2 ((i : Int) - 1) (by omega) (by omega)
          rw [show (i : Int) - 1 + 1 = (i : Int) by omega] at q2
          rw [q2]; split <;> omega
      refine ⟨q7'', ?_, ?_⟩
      · rw [q1.2.1]; split <;> omega
      · rw [q1.2.2]; split <;> omega
  have t1 := hT.fr f1 rfl (fun i => rfl)
  have wk : w32 (100 + (k : Int)) = 100 + (k : Int) := w32_id (by omega)
  rw [wk]
  clear b1 b2
  refine goL (d := d) (s := S.1) (l := ins S.2 k (7, S.1.2.2.2.1)) t1 (by rw [o1 5 (by decide) (by decide)]; exact hr.1) hS h0 (by omega) (by rw [hlen]; omega) r1 w1 (by rw [o1 8 (by decide) (by decide)]; exact hE.1) (by rw [o1 20 (by decide) (by decide)]; exact hE.2) ?_ ?_
  · intro z M2 f2 lv2
    obtain ⟨⟨t2, hr2, r2⟩, w2, e8', e20', q0, q1, q2, q3⟩ := lv2
    have hF : Hid (gI M2 142 8 = 0 ∧ gI M2 142 20 = d) := ⟨e8', e20'⟩
    clear e8' e20'
    have e18 : gI M2 142 18 = (S.2.length : Int) + 1 := by rw [r2.1, hlen]; omega
    refine ⟨⟨by omega, by omega⟩, ?_⟩
    rw [e18]
    have o : ∀ a i, a ≠ 149 → gI (upI M2 149 (100 + (k : Int)) ((S.2.length : Int) + 1)) a i = gI M2 a i := fun a i ha => gI_ne _ _ _ _ ha
    have o9 : ∀ i, 0 ≤ i → gI (upI M2 149 (100 + (k : Int)) ((S.2.length : Int) + 1)) 149 i = if i = 100 + (k : Int) then (S.2.length : Int) + 1 else gI M2 149 i := fun i i0 => gI_up _ _ (by omega) i0
    refine h1 z _ ((f1.trans (f2.mono (fun a i h => q7_E h))).up _ (by simp [qE]; omega)) ⟨⟨t2.fr (p := fun a _ => a == 149) (Fr.rf.up _ rfl) rfl (fun _ => rfl), ?_, ⟨by rw [o _ _ (by decide)]; exact r2.1, fun i hi => ?_⟩⟩, fun i hi => ?_, by rw [o _ _ (by decide)]; exact hF.1, by rw [o _ _ (by decide)]; exact hF.2, q0, q1, q2, q3⟩ ?_ ?_ ?_ ?_ ?_ ?_
    · unfold Hr
      rw [o _ _ (by decide), o _ _ (by decide), o _ _ (by decide), o _ _ (by decide)]; exact hr2
    · rw [o _ _ (by decide), o _ _ (by decide)]; exact r2.2 i hi
    · have h := w2 i hi
      rw [o _ _ (by decide), o _ _ (by decide), o9 _ (by omega)]
      refine ⟨h.1, h.2.1, ?_⟩
      split
      · rw [hlen]; omega
      · exact h.2.2
    · rw [o _ _ (by decide), f2.g rfl]; exact hA.1
    · rw [o _ _ (by decide), f2.g rfl]; exact k145
    · rw [o _ _ (by decide), f2.g rfl]; exact hA.2.1
    · rw [o9 _ (by omega), if_pos rfl]
    · rw [o _ _ (by decide), f2.g rfl]; exact hA.2.2.2
    · refine xb1.same (fun j j0 j1 => ?_) (fun j j0 j1 => ?_)
      · rw [o _ _ (by decide), o _ _ (by decide), o9 _ (by omega), if_neg (by omega), f2.g rfl, f2.g rfl, f2.g rfl]; exact ⟨rfl, rfl, rfl⟩
      · rw [o _ _ (by decide), f2.g rfl]
  · intro z M2 f2 t2 p2 e2
    refine ⟨⟨by omega, by omega⟩, ?_⟩
    refine h2 z _ ((f1.trans (f2.mono (fun a i h => q7_E h))).up _ (by simp [qE]; omega)) (t2.fr (p := fun a _ => a == 149) (Fr.rf.up _ rfl) rfl (fun _ => rfl)) ⟨?_, ?_, ?_, p2.2.2.2⟩ e2
    · rw [gI_ne _ _ _ _ (by decide)]; exact p2.1
    · rw [gI_ne _ _ _ _ (by decide)]; exact p2.2.1
    · rw [gI_ne _ _ _ _ (by decide)]; exact p2.2.2.1

-- needs 30 31 32 33a 33b 33c 33d 33e 33f 33g 33h 33i 33j 40 41 42 43 44 45 46 50 51 52 53 54 79a 79aa 79b 79c 79d 79e 79g 79h
/-! the reference reads an expression -/
def RW (l : List (Int × Int)) (M : pm_M) : Prop := ∀ i : Nat, i < l.length → gI M 147 (100 + (i : Int)) ≤ (l.length : Int) ∧ gI M 148 (100 + (i : Int)) ≤ (l.length : Int) ∧ gI M 149 (100 + (i : Int)) ≤ (l.length : Int)
/-- all is well so far -/
def LV (L : Int → Int) (N d : Int) (S : Ps) (M : pm_M) : Prop := RSt L N S M ∧ RW S.2 M ∧ gI M 142 8 = 0 ∧ gI M 142 20 = d ∧ S.1.2.2.2.2 = 0 ∧ SK N S.1 ∧ (S.2.length : Int) ≤ S.1.2.1 ∧ 1 ≤ S.1.2.1
def RO (L : Int → Int) (N : Int) (k : Nat) (p d : Int) (S' : Ps) (M : pm_M) (K : Int → pm_M → Prop) : Prop :=
  (S'.1.2.2.2.2 = 0 → ∀ M', Fr (qE k) M M' → LV L N d S' M' → gI M' 147 (100 + (k : Int)) = p → (∃ g, XB M' g (k : Int) ((S'.2.length : Int) - 1)) → K 1 M') ∧ (¬ S'.1.2.2.2.2 = 0 → (∀ M', Fr (qE k) M M' → gI M' 142 8 = S'.1.2.2.2.2 → K 0 M') ∧ (∀ M', Fr (qE k) M M' → TpR L N M' → Pnd M' S'.1.2.1 → S'.1.2.2.2.2 = 8 * S'.1.2.1 + 1 → K 1 M'))
theorem adv_f {u : Int → Int} {N : Int} {s : Sc} (h0 : s.2.2.2.2 = 0) (h : ¬ (adv u N s).2.2.2.2 = 0) : (adv u N s).2.2.1 = 1 ∧ (adv u N s).2.2.2.2 = 8 * (adv u N s).2.1 + 1 := by
  unfold adv at h ⊢
  rw [if_pos h0] at h ⊢
  by_cases z : (tok u N (sk u N s.1)).1 = 1
  · exact ⟨z, by simp only []; rw [if_pos z]⟩
  · simp only [] at h; rw [if_neg z] at h; exact absurd rfl h
theorem q7_E {k a i : Nat} (h : q7 a i = true) : qE k a i = true := by
  simp only [q7, qE, Bool.or_eq_true, Bool.and_eq_true, beq_iff_eq, decide_eq_true_eq] at h ⊢
  omega
/-- on to the next token -/
theorem goL {L : Int → Int} {N d : Int} {s : Sc} {l : List (Int × Int)} {M : pm_M} {K : pm_M → Prop} (hT : TpR L N M) (e5 : gI M 142 5 = s.1) (hS : SK N s) (h0 : s.2.2.2.2 = 0) (ht : ¬ s.2.2.1 = 0) (hl : (l.length : Int) ≤ s.2.1 + 1) (hR : RN l M) (hw : RW l M) (e8 : gI M 142 8 = 0) (e20 : gI M 142 20 = d)
    (h1 : (adv (ub L) N s).2.2.2.2 = 0 → ∀ M', Fr q7 M M' → LV L N d (adv (ub L) N s, l) M' → K M') (h2 : ¬ (adv (ub L) N s).2.2.2.2 = 0 → ∀ M', Fr q7 M M' → TpR L N M' → Pnd M' (adv (ub L) N s).2.1 → (adv (ub L) N s).2.2.2.2 = 8 * (adv (ub L) N s).2.1 + 1 → K M') : k12_go M K := by
  have hp := hS.1
  have n6 := hT.2.1.2
  have hpl := adv_pl (u := ub L) hS h0
  have hlt := (hS.2.2.1 h0).2 ht
  have hA : SK N (adv (ub L) N s) := hS.advk
  refine go_r hT e5 h0 ⟨by omega, by omega⟩ (fun M1 f1 hr1 => ?_)
  have t1 := hT.fr f1 rfl (fun _ => rfl)
  by_cases z : (adv (ub L) N s).2.2.2.2 = 0
  · refine h1 z M1 f1 ⟨⟨t1, hr1, ⟨by rw [f1.g rfl]; exact hR.1, fun i hi => ?_⟩⟩, fun i hi => ?_, by rw [f1.g rfl]; exact e8, by rw [f1.g rfl]; exact e20, z, hA, by simp only []; omega, by simp only []; omega⟩
    · rw [f1.g rfl, f1.g rfl]; exact hR.2 i hi
    · rw [f1.g rfl, f1.g rfl, f1.g rfl]; exact hw i hi
  · obtain ⟨a, b⟩ := adv_f h0 z
    refine h2 z M1 f1 t1 ⟨?_, by rw [f1.g rfl]; exact e8, hr1.2.1, hA.1.1, by have := hA.1; omega⟩ b
    rw [hr1.2.2.1, a]; decide
theorem RW.add {l : List (Int × Int)} {x : Int × Int} {M M' : pm_M} {p : Int} (hw : RW l M) (f : Fr (qE l.length) M M') (h7 : gI M' 147 (100 + (l.length : Int)) = p) (hp : p ≤ (l.length : Int)) (h8 : gI M' 148 (100 + (l.length : Int)) ≤ (l.length : Int) + 1) (h9 : gI M' 149 (100 + (l.length : Int)) ≤ (l.length : Int) + 1) : RW (l ++ [x]) M' := by
  intro i hi
  rw [List.length_append] at hi ⊢
  simp only [List.length_singleton] at hi ⊢
  by_cases e : i = l.length
  · subst e
    rw [h7]; exact ⟨by omega, by omega, by omega⟩
  · have h := hw i (by omega)
    rw [f.g (by simp [qE]; omega), f.g (by simp [qE]; omega), f.g (by simp [qE]; omega)]
    exact ⟨by omega, by omega, by omega⟩
/-- a leaf put in, and on -/
theorem leaf_r {L : Int → Int} {N d p : Int} {S : Ps} {M : pm_M} {K : Int → pm_M → Prop} {x : Int × Int} (hv : LV L N d S M) (hp : p < (S.2.length : Int)) (ht : ¬ S.1.2.2.1 = 0) (hx : x.1 = 4 ∨ x.1 = 5) (hO : RO L N S.2.length p d (adv (ub L) N S.1, S.2 ++ [x]) M K) : k12_adds x.1 x.2 p M (fun r3 M2 => k12_go M2 (fun M4 => K 1 M4)) := by
  obtain ⟨⟨hT, hr, hR⟩, hw, e8, e20, h0, hS, hl, h1⟩ := hv
  have n6 := hT.2.1.2
  have hpp := hS.1
  refine adds_r (x := x) (by omega) hR (fun _ => rfl) (fun M1 f1 o1 r1 a7 a8 a9 _ _ _ => ?_)
  have t1 := hT.fr f1 rfl (fun i => rfl)
  refine goL (d := d) (s := S.1) (l := S.2 ++ [x]) t1 (by rw [o1 142 5 rfl (by decide) (by decide)]; exact hr.1) hS h0 ht (by rw [List.length_append]; simp only [List.length_singleton]; omega) r1 (hw.add f1 a7 (by omega) (by omega) (by omega)) (by rw [o1 142 8 rfl (by decide) (by decide)]; exact e8) (by rw [o1 142 20 rfl (by decide) (by decide)]; exact e20) ?_ ?_
  · intro z M2 f2 lv2
    refine hO.1 z M2 (f1.trans (f2.mono (fun a i h => q7_E h))) lv2 (by rw [f2.g rfl]; exact a7) ⟨1, Or.inl ⟨?_, ?_⟩⟩
    · have h3 := (r1.2 S.2.length (by rw [List.length_append]; simp)).1
      have eg : (S.2 ++ [x]).getD S.2.length (0, 0) = x := by rw [List.getD_eq_getElem?_getD, List.getElem?_append_right (Nat.le_refl _), Nat.sub_self]; rfl
      rw [eg] at h3
      rw [f2.g rfl, h3]; exact hx
    · rw [List.length_append]; simp only [List.length_singleton]; omega
  · intro z M2 f2 t2 p2 e2
    exact (hO.2 z).2 M2 (f1.trans (f2.mono (fun a i h => q7_E h))) t2 p2 e2

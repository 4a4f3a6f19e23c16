-- needs 30 31 32 33a 33b 33c 33d 33e 33f 33g 33h 33i 33j 40 41 42 43 44 45 46 50 51 52 53 54 79a 79aa 79b 79c 79d 79e 79g 79h 79i 79j 79k 79l 79m 79n 79o
/-! the reference reads every expression -/
theorem rqP {L : Int → Int} {N : Int} {f : Nat} (iP : QP L N f) (iX : QX L N f) : QP L N (f + 1) := by
  intro d S M K h p d0 d8 hm hh hv hp hO
  have lv := hv
  obtain ⟨⟨hT, hr, hR⟩, hw, e8, e20, h0, hS, hl, hpl⟩ := lv
  have hrx : rx (ub L) N (f + 1) 3 d S = (if ((S.1.2.2.1 = 5 ∧ S.1.2.2.2.1 = 40) ∨ (S.1.2.2.1 = 4 ∧ S.1.2.2.2.1 = 1)) ∧ 8 ≤ d then (refu S.1 2, S.2)
    else if S.1.2.2.1 = 5 ∧ S.1.2.2.2.1 = 40 then (exm (ub L) N 41 (rx (ub L) N f 0 (d + 1) (adv (ub L) N S.1, S.2)).1, (rx (ub L) N f 0 (d + 1) (adv (ub L) N S.1, S.2)).2)
    else if S.1.2.2.1 = 4 ∧ S.1.2.2.2.1 = 1 then rx (ub L) N f 3 (d + 1) (adv (ub L) N S.1, S.2 ++ [(6, 0)])
    else if S.1.2.2.1 = 3 then (adv (ub L) N S.1, S.2 ++ [(4, S.1.2.2.2.1)])
    else if ¬ vr (ub L) S.1 = -1 then (adv (ub L) N S.1, S.2 ++ [(5, vr (ub L) S.1)])
    else (refu S.1 1, S.2)) := by
    conv => lhs; unfold rx
    rw [if_neg (by decide)]
  rw [hrx] at hO
  clear hrx
  have n6 := hT.2.1.2
  have hpp := hS.1
  have ty := hS.2.2.2.2.2.1
  have pl6 : 0 ≤ S.1.2.1 ∧ S.1.2.1 ≤ 600 := ⟨hpp.1, by clear e8 e20 h0 hl hpl hm hh ty; omega⟩
  have rf : ∀ k, refu S.1 k = (S.1.1, S.1.2.1, 1, S.1.2.2.2.1, 8 * S.1.2.1 + k) := fun k => by unfold refu; rw [if_pos h0]
  have nz : ∀ k : Int, 0 < k → ¬ 8 * S.1.2.1 + k = 0 := fun k hk => by have := pl6.1; clear e8 e20 h0 hl hpl hm hh ty hpp n6; omega
  have fail : ∀ k : Int, 0 < k → RO L N S.2.length p d (refu S.1 k, S.2) M K → K 0 (upI M 142 8 (8 * S.1.2.1 + k)) := by
    intro k hk hO
    rw [rf k] at hO
    exact (hO.2 (nz k hk)).1 _ (Fr.rf.up _ (by simp [qE])) (gI_eq _ _ _ _)
  have bad : ∀ k : Int, 0 < k → k < 8 → RO L N S.2.length p d (refu S.1 k, S.2) M K → (if gI M 142 8 = 0 then K 0 (upI M 142 8 (w32 ((w32 (8 * (gI M 142 4))) + k))) else K 0 (upI M 142 8 (gI M 142 8))) := by
    intro k k0 k1 hO
    rw [e8, if_pos rfl, hr.2.1, bad_w pl6 k ⟨k0, k1⟩]
    exact fail k k0 hO
  apply k12_part_r (by clear e8 e20 h0 hl hpl ty hpp n6 rf nz pl6; omega)
  rw [hr.2.2.1]
  by_cases t3 : S.1.2.2.1 = 3
  · rw [if_pos ((tk3 ty).1.mpr t3), hr.2.2.2.1 t3]
    have c1 : ¬ (((S.1.2.2.1 = 5 ∧ S.1.2.2.2.1 = 40) ∨ (S.1.2.2.1 = 4 ∧ S.1.2.2.2.1 = 1)) ∧ 8 ≤ d) := by intro z; rw [t3] at z; rcases z.1 with w | w <;> exact absurd w.1 (by decide)
    have c2 : ¬ (S.1.2.2.1 = 5 ∧ S.1.2.2.2.1 = 40) := by intro z; rw [t3] at z; exact absurd z.1 (by decide)
    have c3 : ¬ (S.1.2.2.1 = 4 ∧ S.1.2.2.2.1 = 1) := by intro z; rw [t3] at z; exact absurd z.1 (by decide)
    rw [if_neg c1, if_neg c2, if_neg c3, if_pos t3] at hO
    exact leaf_r (x := (4, S.1.2.2.2.1)) hv hp (by rw [t3]; decide) (Or.inl rfl) hO
  have n3 : ¬ tkR S.1.2.2.1 = 2 := fun z => t3 ((tk3 ty).1.mp z)
  rw [if_neg n3]
  refine rvar_r hT hr hS ?_
  by_cases hvr : vr (ub L) S.1 = -1
  · rw [if_pos hvr, hr.2.2.1]
    have nv' : ¬ ¬ vr (ub L) S.1 = -1 := fun z => z hvr
    rw [if_neg t3, if_neg nv'] at hO
    by_cases a : tkR S.1.2.2.1 = 3
    · rw [if_pos a]
      have deep : (((S.1.2.2.1 = 5 ∧ S.1.2.2.2.1 = 40) ∨ (S.1.2.2.1 = 4 ∧ S.1.2.2.2.1 = 1)) → k12_part_73 h p M K) := by
        intro hc
        apply k12_part_73_r (by clear e8 e20 h0 hl hpl ty hpp n6 rf nz pl6 hc t3 n3 a; omega)
        rw [e20]
        by_cases z8 : d = 8
        · rw [if_pos z8]
          rw [if_pos ⟨hc, by rw [z8]; decide⟩] at hO
          exact bad 2 (by decide) (by decide) hO
        have z9 : d < 8 := by clear e8 e20 h0 hl hpl ty hpp n6 rf nz pl6 hc t3 n3 a hm hh hp; omega
        have c1 : ¬ (((S.1.2.2.1 = 5 ∧ S.1.2.2.2.1 = 40) ∨ (S.1.2.2.1 = 4 ∧ S.1.2.2.2.1 = 1)) ∧ 8 ≤ d) := fun z => absurd z.2 (Int.not_le.mpr z9)
        have wd : w32 (d + 1) = d + 1 := w32_id (by clear e8 e20 h0 hl hpl ty hpp n6 rf nz pl6 hc t3 n3 a hm hh hp; omega)
        have hm' : 4 * (8 - d) ≤ f := by clear e8 e20 h0 hl hpl ty hpp n6 rf nz pl6 hc t3 n3 a hh hp wd; omega
        rw [if_neg z8, hr.2.2.1, if_pos a, wd]
        rw [if_neg c1] at hO
        rcases hc with ⟨t5, v5⟩ | ⟨t4, v4⟩
        · rw [if_pos ⟨t5, v5⟩] at hO
          rw [hr.2.2.2.2.2 t5, v5, if_neg (by decide)]
          exact open_r iX d0 z9 hm' hh hv hp t5 hO
        · have c2 : ¬ (S.1.2.2.1 = 5 ∧ S.1.2.2.2.1 = 40) := by intro z; rw [t4] at z; exact absurd z.1 (by decide)
          rw [if_neg c2, if_pos ⟨t4, v4⟩] at hO
          rw [hr.2.2.2.2.1 t4, v4, if_pos (by decide)]
          exact neg_r iP d0 z9 hm' hh hv hp t4 hO
      have no : ¬ ((S.1.2.2.1 = 5 ∧ S.1.2.2.2.1 = 40) ∨ (S.1.2.2.1 = 4 ∧ S.1.2.2.2.1 = 1)) → RO L N S.2.length p d (refu S.1 1, S.2) M K := by
        intro hc
        have c1 : ¬ (((S.1.2.2.1 = 5 ∧ S.1.2.2.2.1 = 40) ∨ (S.1.2.2.1 = 4 ∧ S.1.2.2.2.1 = 1)) ∧ 8 ≤ d) := fun z => hc z.1
        have c2 : ¬ (S.1.2.2.1 = 5 ∧ S.1.2.2.2.1 = 40) := fun z => hc (Or.inl z)
        have c3 : ¬ (S.1.2.2.1 = 4 ∧ S.1.2.2.2.1 = 1) := fun z => hc (Or.inr z)
        rw [if_neg c1, if_neg c2, if_neg c3] at hO
        exact hO
      rcases (tk3 ty).2.mp a with t | t
      · have hv4 := vcd45 (hS.2.2.2.2.1 t)
        rw [hr.2.2.2.2.1 t]
        by_cases b : S.1.2.2.2.1 = 1
        · rw [if_pos (hv4.1.mpr b)]; exact deep (Or.inr ⟨t, b⟩)
        · have b' : ¬ vcd S.1.2.2.2.1 = 45 := fun z => b (hv4.1.mp z)
          rw [if_neg b', if_neg hv4.2.1]
          exact bad 1 (by decide) (by decide) (no (fun z => by rcases z with z | z; (rw [t] at z; exact absurd z.1 (by decide)); exact b z.2))
      · rw [hr.2.2.2.2.2 t]
        have c : ¬ S.1.2.2.2.1 = 45 := by
          rcases hS.2.2.2.2.2.2 t with z | z | z | z | z | z <;> rw [z] <;> decide
        rw [if_neg c]
        by_cases b : S.1.2.2.2.1 = 40
        · rw [if_pos b]; exact deep (Or.inl ⟨t, b⟩)
        · rw [if_neg b]
          exact bad 1 (by decide) (by decide) (no (fun z => by rcases z with z | z; (exact b z.2); rw [t] at z; exact absurd z.1 (by decide)))
    · rw [if_neg a]
      have n4 : ¬ S.1.2.2.1 = 4 := fun z => a ((tk3 ty).2.mpr (Or.inl z))
      have n5 : ¬ S.1.2.2.1 = 5 := fun z => a ((tk3 ty).2.mpr (Or.inr z))
      have c2 : ¬ (S.1.2.2.1 = 5 ∧ S.1.2.2.2.1 = 40) := fun z => n5 z.1
      have c3 : ¬ (S.1.2.2.1 = 4 ∧ S.1.2.2.2.1 = 1) := fun z => n4 z.1
      have c1 : ¬ (((S.1.2.2.1 = 5 ∧ S.1.2.2.2.1 = 40) ∨ (S.1.2.2.1 = 4 ∧ S.1.2.2.2.1 = 1)) ∧ 8 ≤ d) := fun z => z.1.elim c2 c3
      rw [if_neg c1, if_neg c2, if_neg c3] at hO
      exact bad 1 (by decide) (by decide) hO
  · rw [if_neg hvr]
    have t2 : S.1.2.2.1 = 2 := by
      by_cases z : S.1.2.2.1 = 2 ∧ S.1.1 - S.1.2.1 = 1
      · exact z.1
      · unfold vr at hvr; rw [if_neg z] at hvr; exact absurd rfl hvr
    have c1 : ¬ (((S.1.2.2.1 = 5 ∧ S.1.2.2.2.1 = 40) ∨ (S.1.2.2.1 = 4 ∧ S.1.2.2.2.1 = 1)) ∧ 8 ≤ d) := by intro z; rw [t2] at z; rcases z.1 with w | w <;> exact absurd w.1 (by decide)
    have c2 : ¬ (S.1.2.2.1 = 5 ∧ S.1.2.2.2.1 = 40) := by intro z; rw [t2] at z; exact absurd z.1 (by decide)
    have c3 : ¬ (S.1.2.2.1 = 4 ∧ S.1.2.2.2.1 = 1) := by intro z; rw [t2] at z; exact absurd z.1 (by decide)
    rw [if_neg c1, if_neg c2, if_neg c3, if_neg t3, if_pos hvr] at hO
    exact leaf_r (x := (5, vr (ub L) S.1)) hv hp (by rw [t2]; decide) (Or.inr rfl) hO
theorem rqAll {L : Int → Int} {N : Int} : ∀ f : Nat, QP L N f ∧ QT L N f ∧ QS L N f ∧ QX L N f := by
  intro f
  induction f with
  | zero =>
    refine ⟨?_, ?_, ?_, ?_⟩
    · intro d S M K h p d0 d8 hm; exact absurd hm (by omega)
    · intro d S M K h p d0 d8 hm; exact absurd hm (by omega)
    · intro d S M K h p d0 d8 hm; exact absurd hm (by omega)
    · intro d S M K h p d0 d8 hm; exact absurd hm (by omega)
  | succ f ih =>
    obtain ⟨iP, iT, iS, iX⟩ := ih
    exact ⟨rqP iP iX, rqT iP, rqS iT, rqX iS⟩

/-! tests: the other reader -/
def LVt (L : Int → Int) (N : Int) (s : Sc) (M : pm_M) : Prop := TpR L N M ∧ Hr s M ∧ gI M 142 8 = 0 ∧ s.2.2.2.2 = 0 ∧ SK N s ∧ WD (ub L) s
def qU (a i : Nat) : Bool := (a == 142 && (4 ≤ i && i ≤ 8)) || a == 155
def qX (lo hi : Int) (a i : Nat) : Bool := (a == 142 && (4 ≤ i && i ≤ 8)) || (a == 155 && (decide (lo ≤ (i : Int)) && decide ((i : Int) < hi)))
theorem q7_V {lo hi : Int} {a i : Nat} (h : q7 a i = true) : qX lo hi a i = true := by
  simp only [q7, qX, Bool.or_eq_true, Bool.and_eq_true, beq_iff_eq, decide_eq_true_eq] at h ⊢
  omega
theorem qX_U {lo hi : Int} {a i : Nat} (h : qX lo hi a i = true) : qU a i = true := by
  simp only [qU, qX, Bool.or_eq_true, Bool.and_eq_true, beq_iff_eq, decide_eq_true_eq] at h ⊢
  omega
theorem qX_m {lo hi lo' hi' : Int} (h1 : lo' ≤ lo) (h2 : hi ≤ hi') {a i : Nat} (h : qX lo hi a i = true) : qX lo' hi' a i = true := by
  simp only [qX, Bool.or_eq_true, Bool.and_eq_true, beq_iff_eq, decide_eq_true_eq] at h ⊢
  omega
theorem q7_U {a i : Nat} (h : q7 a i = true) : qU a i = true := qX_U (q7_V (lo := 0) (hi := 0) h)
def OT (L : Int → Int) (N : Int) (s : Sc) (M : pm_M) (K : Int → pm_M → Prop) : Prop := (∀ M', Fr qU M M' → gI M' 142 8 = s.2.2.2.2 → K 0 M') ∧ (∀ M', Fr qU M M' → TpR L N M' → Pnd M' s.2.1 → s.2.2.2.2 = 8 * s.2.1 + 1 → K 1 M')
theorem goT {L : Int → Int} {N : Int} {s : Sc} {M : pm_M} {K : pm_M → Prop} (hT : TpR L N M) (e5 : gI M 142 5 = s.1) (e8 : gI M 142 8 = 0) (h0 : s.2.2.2.2 = 0) (hS : SK N s) (hW : WD (ub L) s)
    (h1 : (adv (ub L) N s).2.2.2.2 = 0 → ∀ M', Fr q7 M M' → LVt L N (adv (ub L) N s) M' → K M') (h2 : ¬ (adv (ub L) N s).2.2.2.2 = 0 → ∀ M', Fr q7 M M' → TpR L N M' → Pnd M' (adv (ub L) N s).2.1 → (adv (ub L) N s).2.2.2.2 = 8 * (adv (ub L) N s).2.1 + 1 → K M') : k12_go M K := by
  have hp := hS.1
  have n6 := hT.2.1.2
  have hA : SK N (adv (ub L) N s) := hS.advk
  refine go_r hT e5 h0 ⟨by omega, by omega⟩ (fun M1 f1 hr1 => ?_)
  have t1' := hT.fr f1 rfl (fun _ => rfl)
  by_cases z : (adv (ub L) N s).2.2.2.2 = 0
  · exact h1 z M1 f1 ⟨t1', hr1, by rw [f1.g rfl]; exact e8, z, hA, hW.av hS⟩
  · obtain ⟨a, b⟩ := adv_f h0 z
    refine h2 z M1 f1 t1' ⟨?_, by rw [f1.g rfl]; exact e8, hr1.2.1, hA.1.1, by have := hA.1; omega⟩ b
    rw [hr1.2.2.1, a]; decide
theorem LVt.go {L : Int → Int} {N : Int} {s : Sc} {M : pm_M} {K : pm_M → Prop} (h : LVt L N s M) (h1 : (adv (ub L) N s).2.2.2.2 = 0 → ∀ M', Fr q7 M M' → LVt L N (adv (ub L) N s) M' → K M') (h2 : ¬ (adv (ub L) N s).2.2.2.2 = 0 → ∀ M', Fr q7 M M' → TpR L N M' → Pnd M' (adv (ub L) N s).2.1 → (adv (ub L) N s).2.2.2.2 = 8 * (adv (ub L) N s).2.1 + 1 → K M') : k12_go M K := goT h.1 h.2.1.1 h.2.2.1 h.2.2.2.1 h.2.2.2.2.1 h.2.2.2.2.2 h1 h2
theorem pnd_val {pl i : Int} {M : pm_M} {K : Int → pm_M → Prop} (hP : Pnd M pl) (hK : K 0 (upI M 142 8 (8 * pl + 1))) : k12_value i M K := by
  apply k12_value_r
  rw [hP.1, if_neg (by decide), if_neg (by decide), hP.2.1, if_pos rfl, hP.2.2.1, bad_w hP.2.2.2 1 (by decide)]
  exact hK
theorem rbad {L : Int → Int} {N : Int} {s : Sc} {M : pm_M} {K : Int → pm_M → Prop} {k : Int} (hk : 0 < k ∧ k < 8) (h : LVt L N s M) (hK : K 0 (upI M 142 8 (8 * s.2.1 + k))) : (if gI M 142 8 = 0 then K 0 (upI M 142 8 (w32 ((w32 (8 * (gI M 142 4))) + k))) else K 0 (upI M 142 8 (gI M 142 8))) := by
  have hp := h.2.2.2.2.1.1
  have n6 := h.1.2.1.2
  rw [h.2.2.1, if_pos rfl, h.2.1.2.1, bad_w ⟨by omega, by omega⟩ k hk]
  exact hK
/-- the number itself -/
theorem rnum_r {L : Int → Int} {N i v : Int} {s : Sc} {M M0 : pm_M} {K : Int → pm_M → Prop} (hi : 0 ≤ i ∧ i < 80) (h : LVt L N s M) (f0 : Fr (qX i (i + 1)) M0 M)
    (hA : (adv (ub L) N (if s.2.2.1 = 3 then s else refu s 1)).2.2.2.2 = 0 → ∀ M', Fr (qX i (i + 1)) M0 M' → LVt L N (adv (ub L) N (if s.2.2.1 = 3 then s else refu s 1)) M' → gI M' 155 i = v → K 1 M')
    (hD : ¬ (adv (ub L) N (if s.2.2.1 = 3 then s else refu s 1)).2.2.2.2 = 0 → OT L N (adv (ub L) N (if s.2.2.1 = 3 then s else refu s 1)) M0 K) : (if gI M 142 6 = 2 then ((0 ≤ i ∧ i < 80) ∧ k12_go (upI M 155 i v) (fun M7 => K 1 M7)) else (if gI M 142 8 = 0 then K 0 (upI M 142 8 (w32 ((w32 (8 * (gI M 142 4))) + 1))) else K 0 (upI M 142 8 (gI M 142 8)))) := by
  have ty := h.2.2.2.2.1.2.2.2.2.2.1
  have f0U : Fr qU M0 M := f0.mono (fun a j y => qX_U y)
  by_cases t : s.2.2.1 = 3
  · rw [if_pos (by rw [h.2.1.2.2.1]; exact (tk3 ty).1.mpr t)]
    rw [if_pos t] at hA hD
    refine ⟨hi, ?_⟩
    have f1 : Fr (qX i (i + 1)) M0 (upI M 155 i v) := f0.up _ (by simp [qX]; omega)
    have ne : ∀ a j, a ≠ 155 → gI (upI M 155 i v) a j = gI M a j := fun a j q => gI_ne _ _ _ _ q
    have e155 : gI (upI M 155 i v) 155 i = v := gI_eq _ _ _ _
    have t1' : TpR L N (upI M 155 i v) := h.1.fr (p := fun a _ => a == 155) (Fr.rf.up _ rfl) rfl (fun _ => rfl)
    generalize upI M 155 i v = M1 at *
    refine goT t1' (by rw [ne _ _ (by decide)]; exact h.2.1.1) (by rw [ne _ _ (by decide)]; exact h.2.2.1) h.2.2.2.1 h.2.2.2.2.1 h.2.2.2.2.2 (fun z M2 f2 l2 => ?_) (fun z M2 f2 t2' p2 e2 => ?_)
    · exact hA z M2 (f1.trans (f2.mono (fun a j y => q7_V y))) l2 (by rw [f2.g rfl]; exact e155)
    · exact (hD z).2 M2 ((f1.mono (fun a j y => qX_U y)).trans (f2.mono (fun a j y => q7_U y))) t2' p2 e2
  · rw [if_neg (by rw [h.2.1.2.2.1]; exact fun z => t ((tk3 ty).1.mp z))]
    rw [if_neg t] at hD
    have rno := refu_no h.2.2.2.2.1 h.2.2.2.1 (k := 1) (by decide)
    rw [adv_dead rno] at hD
    refine rbad (by decide) h ((hD rno).1 _ (f0U.up _ (by simp [qU])) ?_)
    rw [gI_eq]
    unfold refu; rw [if_pos h.2.2.2.1]
theorem rval_r {L : Int → Int} {N i : Int} {s : Sc} {M : pm_M} {K : Int → pm_M → Prop} (hi : 0 ≤ i ∧ i < 80) (h : LVt L N s M)
    (hA : (tnS (ub L) N s).2.2.2.2 = 0 → ∀ M', Fr (qX i (i + 1)) M M' → LVt L N (tnS (ub L) N s) M' → gI M' 155 i = tnV (ub L) N s → K 1 M') (hD : ¬ (tnS (ub L) N s).2.2.2.2 = 0 → OT L N (tnS (ub L) N s) M K) : k12_value i M K := by
  have ty := h.2.2.2.2.1.2.2.2.2.2.1
  have hr := h.2.1
  have hSk := h.2.2.2.2.1
  apply k12_value_r
  have plain : ¬ (s.2.2.1 = 4 ∧ s.2.2.2.1 = 1) → (if gI M 142 6 = 2 then ((0 ≤ i ∧ i < 80) ∧ k12_go (upI M 155 i (gI M 142 7)) (fun M12 => K 1 M12)) else (if gI M 142 8 = 0 then K 0 (upI M 142 8 (w32 ((w32 (8 * (gI M 142 4))) + 1))) else K 0 (upI M 142 8 (gI M 142 8)))) := by
    intro hno
    have eA : tnA (ub L) N s = s := by unfold tnA; rw [if_neg hno]
    have eS : tnS (ub L) N s = adv (ub L) N (if s.2.2.1 = 3 then s else refu s 1) := by unfold tnS; rw [eA]
    have eV : tnV (ub L) N s = s.2.2.2.1 := by unfold tnV; rw [if_neg hno, eA]
    rw [eS, eV] at hA
    rw [eS] at hD
    refine rnum_r hi h Fr.rf (fun z M' f' l' e' => ?_) hD
    refine hA z M' f' l' ?_
    rw [e']
    by_cases t : s.2.2.1 = 3
    · exact hr.2.2.2.1 t
    · exfalso
      have rno := refu_no hSk h.2.2.2.1 (k := 1) (by decide)
      rw [if_neg t, adv_dead rno] at z
      exact rno z
  by_cases a : gI M 142 6 = 3
  case neg =>
    have hp := plain (fun z => a (by rw [hr.2.2.1]; exact (tk3 ty).2.mpr (Or.inl z.1)))
    rw [if_neg a]; exact hp
  have h45 := (tk3 ty).2.mp (by rw [← hr.2.2.1]; exact a)
  by_cases b : gI M 142 7 = 45
  case neg =>
    have hp := plain (fun z => b (by rw [hr.2.2.2.2.1 z.1]; exact (vcd45 (hSk.2.2.2.2.1 z.1)).1.mpr z.2))
    rw [if_pos a, if_neg b]; exact hp
  rw [if_pos a, if_pos b]
  have hm : s.2.2.1 = 4 ∧ s.2.2.2.1 = 1 := by
    rcases h45 with t | t
    · exact ⟨t, (vcd45 (hSk.2.2.2.2.1 t)).1.mp (by rw [← hr.2.2.2.2.1 t]; exact b)⟩
    · exfalso
      have := hSk.2.2.2.2.2.2 t
      rw [hr.2.2.2.2.2 t] at b
      rw [b] at this
      rcases this with y | y | y | y | y | y <;> exact absurd y (by decide)
  have eA : tnA (ub L) N s = adv (ub L) N s := by unfold tnA; rw [if_pos hm]
  have eS : tnS (ub L) N s = adv (ub L) N (if (adv (ub L) N s).2.2.1 = 3 then adv (ub L) N s else refu (adv (ub L) N s) 1) := by unfold tnS; rw [eA]
  have eV : tnV (ub L) N s = w32 (-(adv (ub L) N s).2.2.2.1) := by unfold tnV; rw [if_pos hm, eA]
  rw [eS, eV] at hA
  rw [eS] at hD
  refine h.go (fun z M3 f3 l3 => ?_) (fun z M3 f3 t3' p3 e3 => ?_)
  · refine rnum_r hi l3 (f3.mono (fun a j y => q7_V y)) (fun z2 M' f' l' e' => ?_) hD
    refine hA z2 M' f' l' ?_
    rw [e']
    by_cases t : (adv (ub L) N s).2.2.1 = 3
    · rw [l3.2.1.2.2.2.1 t]
    · exfalso
      have rno := refu_no l3.2.2.2.2.1 l3.2.2.2.1 (k := 1) (by decide)
      rw [if_neg t, adv_dead rno] at z2
      exact rno z2
  · have skA : SK N (adv (ub L) N s) := hSk.advk
    have t1' := skA.2.1 z
    rw [if_neg (by omega), refu_dead z, adv_dead z] at hD
    rw [p3.1, if_neg (by decide), p3.2.1, if_pos rfl, p3.2.2.1, bad_w p3.2.2.2 1 (by decide)]
    refine (hD z).1 _ ((f3.mono (fun a j y => q7_U y)).up _ (by simp [qU])) ?_
    rw [gI_eq, e3]

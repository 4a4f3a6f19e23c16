/-! a whole text read -/
def blg (g : Qs → Qs) : Nat → Qs → Qs
  | 0, Q => Q
  | n + 1, Q => if Q.1.1.2.2.2.2 = 0 ∧ ¬ Q.1.1.2.2.1 = 0 then blg g n (g Q) else Q
theorem blg_stop {g : Qs → Qs} {n : Nat} {Q : Qs} (h : ¬ (Q.1.1.2.2.2.2 = 0 ∧ ¬ Q.1.1.2.2.1 = 0)) : blg g n Q = Q := by
  cases n with
  | zero => rfl
  | succ n =>
    show (if Q.1.1.2.2.2.2 = 0 ∧ ¬ Q.1.1.2.2.1 = 0 then blg g n (g Q) else Q) = _
    rw [if_neg h]
theorem blg_next {g : Qs → Qs} {n : Nat} {Q : Qs} (h : Q.1.1.2.2.2.2 = 0 ∧ ¬ Q.1.1.2.2.1 = 0) : blg g (n + 1) Q = blg g n (g Q) := by
  show (if Q.1.1.2.2.2.2 = 0 ∧ ¬ Q.1.1.2.2.1 = 0 then blg g n (g Q) else Q) = _
  rw [if_pos h]
def s0 : Sc := (0, 0, 0, 0, 0)
def Q0 (u : Int → Int) (N : Int) : Qs := ((adv u N s0, []), [])
def prg (u : Int → Int) (N : Int) : Qs := blg (rst u N 5 (-1) 0 0) 600 (rst u N 5 (-1) 0 0 (Q0 u N))
theorem SK.s0 {N : Int} (hN : 0 ≤ N) : SK N s0 := ⟨⟨by decide, by decide, hN⟩, fun z => absurd rfl z, fun _ => ⟨by decide, fun z => absurd rfl z⟩, fun z => absurd z (by decide), fun z => absurd z (by decide), ⟨by decide, by decide⟩, fun z => absurd z (by decide)⟩
theorem GP.q0 {u : Int → Int} {N : Int} (hN : 0 ≤ N) : GP N (Q0 u N).1 := by
  have h : SK N (adv u N Jvm.Pilot.CProgramMenderLaw_law_r5342_e81779.s0) := (SK.s0 hN).advk
  have h1 := h.1
  refine ⟨h, ?_⟩
  show (0 : Int) ≤ _
  show (0 : Int) ≤ if (adv u N Jvm.Pilot.CProgramMenderLaw_law_r5342_e81779.s0).2.2.2.2 = 0 then (adv u N Jvm.Pilot.CProgramMenderLaw_law_r5342_e81779.s0).2.1 else (adv u N Jvm.Pilot.CProgramMenderLaw_law_r5342_e81779.s0).1
  split <;> omega
/-- what a text read without a fault holds -/
def WQ (N : Int) (Q : Qs) : Prop := GP N Q.1 ∧ (Q.1.1.2.2.2.2 = 0 → WLs Q.1.2 Q.2 ∧ Opn Q.2 (-1) ∧ PrO Q.1.2 Q.2 (-1) 0)
theorem WQ.q0 {u : Int → Int} {N : Int} (hN : 0 ≤ N) : WQ N (Q0 u N) := ⟨GP.q0 hN, fun _ => ⟨WLs.nil, fun t ht => absurd ht (by show ¬ t ∈ ([] : List Stm); simp), Or.inl ⟨rfl, rfl⟩⟩⟩
theorem WQ.st {u : Int → Int} {N : Int} {Q : Qs} (h : WQ N Q) : WQ N (rst u N 5 (-1) 0 0 Q) ∧ ((rst u N 5 (-1) 0 0 Q).1.1.2.2.2.2 = 0 → Q.2.length + 1 ≤ (rst u N 5 (-1) 0 0 Q).2.length) := by
  refine ⟨⟨rst_GP 5 _ _ _ _ h.1, fun z => ?_⟩, fun z => ?_⟩
  · obtain ⟨h0, r⟩ := rst_keep (by decide) (by decide) (by decide) h.1 h.2 z
    obtain ⟨w, o, p⟩ := h.2 h0
    exact ⟨r.2.1, r.2.2 _ (Int.le_refl _) o, r.pr w p⟩
  · obtain ⟨h0, r⟩ := rst_keep (by decide) (by decide) (by decide) h.1 h.2 z
    obtain ⟨w, o, p⟩ := h.2 h0
    obtain ⟨q1, q2, q3, q4⟩ := rst_ok 5 (-1) 0 0 Q (by decide) (by decide) (by decide) h.1 h0 w o p z
    obtain ⟨⟨X, D, -, e2⟩, -, -⟩ := q4
    rw [e2, List.length_append]
    have : (exq u N (-1) 0 Q).2.length = Q.2.length + 1 := by unfold exq; rw [List.length_append]; rfl
    omega
theorem blg_ok {u : Int → Int} {N : Int} : ∀ (n : Nat) (Q : Qs), WQ N Q → 21 ≤ Q.2.length + n → WQ N (blg (rst u N 5 (-1) 0 0) n Q) ∧ ((blg (rst u N 5 (-1) 0 0) n Q).1.1.2.2.2.2 = 0 → (blg (rst u N 5 (-1) 0 0) n Q).1.1.2.2.1 = 0) := by
  intro n
  induction n with
  | zero =>
    intro Q h hl
    refine ⟨h, fun z => ?_⟩
    have := (h.2 z).1.1.1
    omega
  | succ n ih =>
    intro Q h hl
    by_cases a : Q.1.1.2.2.2.2 = 0 ∧ ¬ Q.1.1.2.2.1 = 0
    · rw [blg_next a]
      obtain ⟨h1, h2⟩ := h.st (u := u)
      by_cases z : (rst u N 5 (-1) 0 0 Q).1.1.2.2.2.2 = 0
      · exact ih _ h1 (by have := h2 z; omega)
      · rw [blg_stop (fun y => z y.1)]; exact ⟨h1, fun y => absurd y z⟩
    · rw [blg_stop a]
      exact ⟨h, fun z => Decidable.byContradiction (fun y => a ⟨z, y⟩)⟩
theorem prg_ok {u : Int → Int} {N : Int} (hN : 0 ≤ N) : WQ N (prg u N) ∧ ((prg u N).1.1.2.2.2.2 = 0 → (prg u N).1.1.2.2.1 = 0) := blg_ok 600 _ ((WQ.q0 hN).st).1 (by omega)
/-- a text's rows behind its reading -/
def PrC (o : Nat) (Q : Qs) (M : pm_M) : Prop := gI M o 15 = (Q.1.2.length : Int) ∧ gI M o 17 = 0 ∧ MV Q.1.2 (gI M o 18) ∧ (∀ i : Nat, i < Q.1.2.length → gI M (o + 1) (i : Int) = (Q.1.2.getD i (0, 0)).1 ∧ gI M (o + 2) (i : Int) = (Q.1.2.getD i (0, 0)).2) ∧ CR o Q.2 Q.1.2.length M ∧ (∀ t ∈ Q.2, LKt o Q.2 M t) ∧ ∀ i : Nat, i < 60 → gI M (o + 3) (i : Int) = 0
def pRd (o a i : Nat) : Bool := (a == 70 && 1 ≤ i) || (a == 71 && i == 1) || (o ≤ a && a ≤ o + 12)
theorem bi0 {v : Int} (h : 0 ≤ v ∧ v < 9) : ¬ bi 0 v = true := by
  have key : ∀ k : Nat, k < 9 → ¬ bi 0 (k : Int) = true := by decide +kernel
  have := key v.toNat (by omega)
  rw [Int.toNat_of_nonneg h.1] at this; exact this
theorem pS_Rd {o a i : Nat} (h : pS o a i = true) : pRd o a i = true := by
  simp only [pS, pE, p7, pA, pRd, Bool.or_eq_true, Bool.and_eq_true, beq_iff_eq, decide_eq_true_eq] at h ⊢
  omega
theorem pK_Rd {o a i : Nat} (h : pK o a i = true) : pRd o a i = true := by
  simp only [pK, pRd, Bool.or_eq_true, Bool.and_eq_true, beq_iff_eq, decide_eq_true_eq] at h ⊢
  omega
theorem read_r {o : Nat} (ho : o = 2 ∨ o = 36) {L : Int → Int} {N : Int} {M : pm_M} {K : Int → pm_M → Prop} (hN : 0 ≤ N ∧ N ≤ 600) (hL : ∀ i, 0 ≤ i → i < 600 → gI M 1 i = L i ∧ -128 ≤ L i ∧ L i ≤ 127)
    (h1 : ¬ (prg (ub L) N).1.1.2.2.2.2 = 0 → ∀ M', Fr (pRd o) M M' → K (prg (ub L) N).1.1.2.2.2.2 M')
    (h2 : (prg (ub L) N).1.1.2.2.2.2 = 0 → 60 < (prg (ub L) N).1.2.length → ∀ M', Fr (pRd o) M M' → K 2 M')
    (h3 : (prg (ub L) N).1.1.2.2.2.2 = 0 → (prg (ub L) N).1.2.length ≤ 60 → ∀ M', Fr (pRd o) M M' → PrC o (prg (ub L) N) M' → K 0 M') : k4_read o N M K := by
  have w600 : (if 0 < (if 600 < N then 600 else N) then (if 600 < N then 600 else N) else 0) = N := by
    have e : ¬ 600 < N := by omega
    rw [if_neg e]; split <;> omega
  apply k4_read_r ho
  apply k0_clear_r ho
  have hs : pm_S0[o + 3]? = some (14, 60) := by rcases ho with rfl | rfl <;> rfl
  have hr : pm_nr (o + 3) = true := by rcases ho with rfl | rfl <;> decide +kernel
  refine fill_r hs hr (by decide) ?_
  apply k7_start_r
  rw [w600]
  -- the heap where it begins
  obtain ⟨A, hA⟩ : ∃ A, A = upI (upI (upI (pm_nw (upI (upI (upI (upI (upI M 71 1 (o : Int)) o 15 0) o 16 0) o 17 0) o 18 0) (o + 3) (fun j => if j < 60 then 0 else (upI (upI (upI (upI (upI M 71 1 (o : Int)) o 15 0) o 16 0) o 17 0) o 18 0) (o + 3) j)) 70 1 N) 70 2 0) 70 6 0 := ⟨_, rfl⟩
  rw [← hA]
  have nw : ∀ (X : pm_M) (f : Nat → Int) (a : Nat) (i : Int), a ≠ o + 3 → gI (pm_nw X (o + 3) f) a i = gI X a i := fun X f a i h => gI_nwn _ _ _ h
  have fA : Fr (pRd o) M A := by
    have q : Fr (pRd o) M (upI (upI (upI (upI (upI M 71 1 (o : Int)) o 15 0) o 16 0) o 17 0) o 18 0) := ((((Fr.rf.up _ (by simp [pRd])).up _ (by simp [pRd])).up _ (by simp [pRd])).up _ (by simp [pRd])).up _ (by simp [pRd])
    have q2 : ∀ (X : pm_M) (f : Nat → Int), Fr (pRd o) M X → Fr (pRd o) M (pm_nw X (o + 3) f) := fun X f h a i z => by
      have : a ≠ o + 3 := fun e => by subst e; simp [pRd] at z
      rw [pm_nw_ne this]; exact h a i z
    rw [hA]
    exact (((q2 _ _ q).up _ (by simp [pRd])).up _ (by simp [pRd])).up _ (by simp [pRd])
  have a1 : gI A 70 1 = N := by rw [hA, gI_nf _ _ (by decide), gI_nf _ _ (by decide), gI_eq]
  have a2 : gI A 70 2 = 0 := by rw [hA, gI_nf _ _ (by decide), gI_eq]
  have a6 : gI A 70 6 = 0 := by rw [hA, gI_eq]
  have a71 : gI A 71 1 = (o : Int) := by rw [hA, gI_ne _ _ _ _ (by decide), gI_ne _ _ _ _ (by decide), gI_ne _ _ _ _ (by decide), nw _ _ _ _ (by omega), gI_ne _ _ _ _ (by omega), gI_ne _ _ _ _ (by omega), gI_ne _ _ _ _ (by omega), gI_ne _ _ _ _ (by omega), gI_eq]
  have a15 : gI A o 15 = 0 := by rw [hA, gI_ne _ _ _ _ (by omega), gI_ne _ _ _ _ (by omega), gI_ne _ _ _ _ (by omega), nw _ _ _ _ (by omega), gI_nf _ _ (by decide), gI_nf _ _ (by decide), gI_nf _ _ (by decide), gI_eq]
  have a16 : gI A o 16 = 0 := by rw [hA, gI_ne _ _ _ _ (by omega), gI_ne _ _ _ _ (by omega), gI_ne _ _ _ _ (by omega), nw _ _ _ _ (by omega), gI_nf _ _ (by decide), gI_nf _ _ (by decide), gI_eq]
  have a17 : gI A o 17 = 0 := by rw [hA, gI_ne _ _ _ _ (by omega), gI_ne _ _ _ _ (by omega), gI_ne _ _ _ _ (by omega), nw _ _ _ _ (by omega), gI_nf _ _ (by decide), gI_eq]
  have a18 : gI A o 18 = 0 := by rw [hA, gI_ne _ _ _ _ (by omega), gI_ne _ _ _ _ (by omega), gI_ne _ _ _ _ (by omega), nw _ _ _ _ (by omega), gI_eq]
  have am : ∀ i : Nat, i < 60 → gI A (o + 3) (i : Int) = 0 := fun i hi => by
    rw [hA, gI_ne _ _ _ _ (by omega), gI_ne _ _ _ _ (by omega), gI_ne _ _ _ _ (by omega), gI_nw, Int.toNat_natCast, if_pos hi]
  clear hA
  have tA : TpC L N A := ⟨a1, hN, fun i i0 i1 => by rw [fA.g (by simp [pRd] <;> omega)]; exact hL i i0 i1⟩
  have hsA : Hs (0, gI A 70 3, gI A 70 4, gI A 70 5, 0) A := ⟨a2, rfl, rfl, rfl, a6⟩
  refine advance_r tA hsA ⟨show (0 : Int) ≤ 0 from Int.le_refl _, hN.1⟩ (fun M1 f1 hs1 => ?_)
  have eadv : adv (ub L) N (0, gI A 70 3, gI A 70 4, gI A 70 5, 0) = adv (ub L) N s0 := rfl
  rw [eadv] at hs1
  have f01 : Fr (pRd o) M M1 := fA.trans (f1.mono (fun a i y => pS_Rd (pE_S (p7_E y))))
  have c1 : CQ L N o (Q0 (ub L) N) M1 := by
    refine ⟨⟨tA.fr f1 rfl (fun _ => rfl), hs1, ?_, ?_, fun _ i hi => absurd hi (Nat.not_lt_zero _), ?_⟩, fun _ => ⟨?_, fun i hi => absurd hi (Nat.not_lt_zero _), fun _ t ht => absurd ht (by show ¬ t ∈ ([] : List Stm); simp)⟩⟩
    · rw [f1.g rfl]; exact a71
    · rw [f1.g (by simp [p7] <;> omega)]; exact a15
    · rw [f1.g (by simp [p7] <;> omega), a18]
      refine ⟨by decide, fun v v0 v1 => ⟨fun z => absurd z (bi0 ⟨v0, v1⟩), fun ⟨y, hy, _⟩ => absurd hy (by show ¬ y ∈ ([] : List (Int × Int)); simp)⟩⟩
    · rw [f1.g (by simp [p7] <;> omega)]; exact a16
  have m1 : gI M1 o 17 = 0 ∧ ∀ i : Nat, i < 60 → gI M1 (o + 3) (i : Int) = 0 := ⟨by rw [f1.g (by simp [p7] <;> omega)]; exact a17, fun i hi => by rw [f1.g (by simp [p7] <;> omega)]; exact am i hi⟩
  have keep : ∀ X Y, Fr (pS o) X Y → (gI X o 17 = 0 ∧ ∀ i : Nat, i < 60 → gI X (o + 3) (i : Int) = 0) → (gI Y o 17 = 0 ∧ ∀ i : Nat, i < 60 → gI Y (o + 3) (i : Int) = 0) := fun X Y f h => ⟨by rw [f.g (by simp [pS, pE, p7, pA] <;> omega)]; exact h.1, fun i hi => by rw [f.g (by simp [pS, pE, p7, pA] <;> omega)]; exact h.2 i hi⟩
  have q0 := WQ.q0 (u := ub L) hN.1
  have pS5 := (cstmAll (L := L) (N := N) ho 5).1
  refine pS5 (-1) 0 0 (Q0 (ub L) N) M1 _ 200 (by decide) (by decide) (by decide) (by decide) q0.1 c1 q0.2 (fun M2 f2 c2 => ?_)
  have ok := prg_ok (u := ub L) hN.1
  -- the rest of the statements
  have rest : ∀ (n : Nat) (i : Int) (Q : Qs) (X : pm_M), i + n = 600 → 0 ≤ i → WQ N Q → CQ L N o Q X → blg (rst (ub L) N 5 (-1) 0 0) n Q = prg (ub L) N → Fr (pRd o) M X → (gI X o 17 = 0 ∧ ∀ i : Nat, i < 60 → gI X (o + 3) (i : Int) = 0) → k4_read_29 o i X K := by
    intro n
    have fin : ∀ (Q : Qs) (X : pm_M), Q = prg (ub L) N → CQ L N o Q X → Fr (pRd o) M X → (gI X o 17 = 0 ∧ ∀ i : Nat, i < 60 → gI X (o + 3) (i : Int) = 0) → Q.1.1.2.2.2.2 = 0 → (gI X 71 1 = (o : Int) ∧ (if gI X o 15 ≤ 60 then k0_link o X (fun M6 => K 0 M6) else K 2 X)) := by
      intro Q X e c f m z
      refine ⟨c.1.2.2.1, ?_⟩
      rw [c.1.2.2.2.1]
      rw [← e] at h2 h3 ok
      by_cases q : (Q.1.2.length : Int) ≤ 60
      · rw [if_pos q]
        have q' : Q.1.2.length ≤ 60 := by omega
        refine link_r ho (ok.1.2 z).1 q' c.1.2.2.2.1 (fun i hi => (c.1.2.2.2.2.1 q' i hi).1) (c.2 z) (fun Y fY rY lY => ?_)
        refine h3 z q' Y (f.trans (fY.mono (fun a i y => pK_Rd y))) ⟨?_, ?_, ?_, fun i hi => ?_, rY, lY, fun i hi => ?_⟩
        · rw [fY.g (by simp [pK])]; exact c.1.2.2.2.1
        · rw [fY.g (by simp [pK])]; exact m.1
        · rw [fY.g (by simp [pK])]; exact c.1.2.2.2.2.2
        · rw [fY.g (by simp [pK]), fY.g (by simp [pK])]; exact c.1.2.2.2.2.1 q' i hi
        · rw [fY.g (by simp [pK])]; exact m.2 i hi
      · rw [if_neg q]; exact h2 z (by omega) X f
    induction n with
    | zero =>
      intro i Q X hi i0 w c e f m
      apply k4_read_29_r ho
      have e' : Q = prg (ub L) N := e
      rw [if_neg (by omega), c.1.2.1.2.2.2.2]
      by_cases z : Q.1.1.2.2.2.2 = 0
      · rw [if_pos z]; exact fin Q X e' c f m z
      · rw [if_neg z]; rw [← e'] at h1; exact h1 z X f
    | succ n ih =>
      intro i Q X hi i0 w c e f m
      apply k4_read_29_r ho
      rw [if_pos (by omega), c.1.2.1.2.2.2.2, c.1.2.1.2.2.1, w32_id (show -2147483648 ≤ i + 1 ∧ i + 1 < 2147483648 by omega)]
      by_cases z : Q.1.1.2.2.2.2 = 0
      case neg =>
        rw [blg_stop (fun y => z y.1)] at e
        rw [if_neg z]; rw [← e] at h1; exact h1 z X f
      rw [if_pos z]
      by_cases t : Q.1.1.2.2.1 = 0
      · rw [blg_stop (fun y => y.2 t)] at e
        rw [if_pos t]; exact fin Q X e c f m z
      · rw [if_neg t]
        rw [blg_next ⟨z, t⟩] at e
        refine pS5 (-1) 0 0 Q X _ 200 (by decide) (by decide) (by decide) (by decide) w.1 c w.2 (fun Y fY cY => ?_)
        exact ih (i + 1) _ Y (by omega) (by omega) w.st.1 cY e (f.trans (fY.mono (fun a i y => pS_Rd y))) (keep _ _ fY m)
  exact rest 600 0 _ M2 (by decide) (by decide) q0.st.1 c2 rfl (f01.trans (f2.mono (fun a i y => pS_Rd y))) (keep _ _ f2 m1)

/-! the other reader: the call that reads a program -/
def qPf (a i : Nat) : Bool := (a == 142 && (i == 0 || (2 ≤ i && i ≤ 8) || (18 ≤ i && i ≤ 21))) || ((145 ≤ a && a ≤ 152) && 100 ≤ i)
def qPr (a i : Nat) : Bool := (a == 142 && (i == 0 || (2 ≤ i && i ≤ 8) || (18 ≤ i && i ≤ 22) || i == 60)) || (144 ≤ a && a ≤ 153)
theorem qS_Pf {a i : Nat} (h : qS 0 a i = true) : qPf a i = true := by
  simp only [qS, qE, qPf, Bool.or_eq_true, Bool.and_eq_true, beq_iff_eq, decide_eq_true_eq] at h ⊢
  omega
theorem qPf_Pr {a i : Nat} (h : qPf a i = true) : qPr a i = true := by
  simp only [qPf, qPr, Bool.or_eq_true, Bool.and_eq_true, beq_iff_eq, decide_eq_true_eq] at h ⊢
  omega
theorem RP2.cp {Q : Qs} {M M' : pm_M} (h : RP2 (-1) 0 0 150 [] Q M) (k : ∀ a j, 145 ≤ a → a ≤ 152 → 0 ≤ j → gI M' a (100 + j) = gI M a (100 + j)) : RP2 (-1) 0 0 150 [] Q M' := by
  obtain ⟨w, rd, fs, s1, s2⟩ := h
  refine ⟨w, fun t ht hn => ?_, fun z => absurd z (by decide), s1, s2⟩
  have hb := (w.1.2.2.2.1 t ht).1
  obtain ⟨a1, a2⟩ := rd t ht hn
  refine ⟨a1.ext (fun s hs => hs) (fun s hs => Or.inl hs) (fun a b1 b2 j j1 j2 => k a j b1 (by omega) (by omega)) (k 150 t.1 (by decide) (by decide) hb.1) (k 151 t.1 (by decide) (by decide) hb.1) (by omega), ?_⟩
  unfold RNt at a2 ⊢
  rw [k 152 t.1 (by decide) (by decide) hb.1]; exact a2
theorem rprogram_r {c : Nat} (hc : 153 ≤ c) {L : Int → Int} {N tp : Int} {M : pm_M} {K : Int → pm_M → Prop} (htp : gI M 142 2 = tp) (ht6 : 0 ≤ tp ∧ tp ≤ 600) (hL : ∀ i, 0 ≤ i → i < 600 → gI M 143 i = L i ∧ -128 ≤ L i ∧ L i ≤ 127)
    (h0 : (N < 0 ∨ tp < N) → K (-1) (upI M 142 0 0))
    (h1 : 0 ≤ N → N ≤ tp → ¬ (prg (ub L) N).1.1.2.2.2.2 = 0 → ∀ M', Fr qPf M M' → gI M' 142 2 = 0 → K (w32 ((-2) - (prg (ub L) N).1.1.2.2.2.2)) M')
    (h2 : 0 ≤ N → N ≤ tp → (prg (ub L) N).1.1.2.2.2.2 = 0 → 60 < (prg (ub L) N).1.2.length → ∀ M', Fr qPf M M' → gI M' 142 2 = 0 → K (-4) M')
    (h3 : 0 ≤ N → N ≤ tp → (prg (ub L) N).1.1.2.2.2.2 = 0 → (prg (ub L) N).1.2.length ≤ 60 → ∀ M', Fr qPr M M' → gI M' 142 2 = 0 → PrR (prg (ub L) N) M' → K ((prg (ub L) N).1.2.length : Int) M') : k12_program c N M K := by
  apply k12_program_r
  by_cases n0 : N < 0
  · rw [if_pos n0]; exact h0 (Or.inl n0)
  rw [if_neg n0, htp]
  by_cases n1 : N ≤ tp
  case neg => rw [if_neg n1]; exact h0 (Or.inr (by omega))
  rw [if_pos n1]
  have N0 : 0 ≤ N := by omega
  have q1 := h1 N0 n1
  have q2 := h2 N0 n1
  have q3 := h3 N0 n1
  clear h0 h1 h2 h3
  obtain ⟨A, hA⟩ : ∃ A, A = upI (upI (upI (upI (upI (upI (upI (upI (upI M 142 0 0) 142 3 N) 142 2 0) 142 5 0) 142 8 0) 142 18 0) 142 19 0) 142 20 0) 142 21 0 := ⟨_, rfl⟩
  rw [← hA]
  have fA : Fr qPf M A := by
    rw [hA]
    exact ((((((((Fr.rf.up _ rfl).up _ rfl).up _ rfl).up _ rfl).up _ rfl).up _ rfl).up _ rfl).up _ rfl).up _ rfl
  have a2 : gI A 142 2 = 0 := by rw [hA, gI_nf _ _ (by decide), gI_nf _ _ (by decide), gI_nf _ _ (by decide), gI_nf _ _ (by decide), gI_nf _ _ (by decide), gI_nf _ _ (by decide), gI_eq]
  have a3 : gI A 142 3 = N := by rw [hA, gI_nf _ _ (by decide), gI_nf _ _ (by decide), gI_nf _ _ (by decide), gI_nf _ _ (by decide), gI_nf _ _ (by decide), gI_nf _ _ (by decide), gI_nf _ _ (by decide), gI_eq]
  have a5 : gI A 142 5 = 0 := by rw [hA, gI_nf _ _ (by decide), gI_nf _ _ (by decide), gI_nf _ _ (by decide), gI_nf _ _ (by decide), gI_nf _ _ (by decide), gI_eq]
  have a8 : gI A 142 8 = 0 := by rw [hA, gI_nf _ _ (by decide), gI_nf _ _ (by decide), gI_nf _ _ (by decide), gI_nf _ _ (by decide), gI_eq]
  have a18 : gI A 142 18 = 0 := by rw [hA, gI_nf _ _ (by decide), gI_nf _ _ (by decide), gI_nf _ _ (by decide), gI_eq]
  have a19 : gI A 142 19 = 0 := by rw [hA, gI_nf _ _ (by decide), gI_nf _ _ (by decide), gI_eq]
  have a20 : gI A 142 20 = 0 := by rw [hA, gI_nf _ _ (by decide), gI_eq]
  have a21 : gI A 142 21 = 0 := by rw [hA, gI_eq]
  clear hA
  have tA : TpR L N A := ⟨a3, ⟨N0, by omega⟩, fun i i0 i1 => by rw [fA.g rfl]; exact hL i i0 i1⟩
  refine go_r (s := s0) tA a5 rfl ⟨Int.le_refl _, N0⟩ (fun M3 f3 hr3 => ?_)
  have f03 : Fr qPf M M3 := fA.trans (f3.mono (fun a i y => qS_Pf (q7_S y)))
  have t3 : TpR L N M3 := tA.fr f3 rfl (fun _ => rfl)
  have m2 : gI M3 142 2 = 0 := by rw [f3.g rfl]; exact a2
  have skA : SK N (adv (ub L) N s0) := (SK.s0 N0).advk
  by_cases al : (Q0 (ub L) N).1.1.2.2.2.2 = 0
  · have lq : LQ L N 0 (Q0 (ub L) N) M3 := by
      refine ⟨⟨⟨t3, hr3, ⟨by rw [f3.g rfl]; exact a18, fun i hi => absurd hi (Nat.not_lt_zero _)⟩⟩, fun i hi => absurd hi (Nat.not_lt_zero _), by rw [f3.g rfl]; exact a8, by rw [f3.g rfl]; exact a20⟩, ⟨al, skA, ?_, ?_⟩, by rw [f3.g rfl]; exact a19, by rw [f3.g rfl]; exact a21⟩
      · show (0 : Int) ≤ (adv (ub L) N s0).2.1
        exact skA.1.1
      · exact WD.av (SK.s0 N0) (WD.no (by decide))
    refine ⟨c, 0, by omega, rowT hc N0 lq (fun z M5 f5 lq5 rp5 => ?_) (fun z M5 f5 e5 => ?_)⟩
    · show (if (1 : Int) = 0 then _ else _)
      rw [if_neg (by decide)]
      have f05 : Fr qPf M M5 := f03.trans (f5.mono (fun a i y => qS_Pf y))
      have m25 : gI M5 142 2 = 0 := by rw [f5.g rfl]; exact m2
      have e18 : gI M5 142 18 = ((prg (ub L) N).1.2.length : Int) := lq5.1.1.2.2.1
      have e19 := lq5.2.2.1
      have R5 := lq5.1.1.2.2
      have w5 := rp5.1.1
      clear lq5
      rw [e18, e19]
      by_cases s60 : (prg (ub L) N).1.2.length ≤ 60
      · rw [if_pos (by omega)]
        have qq := q3 z s60
        clear q1 q2 q3
        generalize prg (ub L) N = Q at *
        obtain ⟨B, hB⟩ : ∃ B, B = upI (upI M5 144 0 (Q.1.2.length : Int)) 144 1 (Q.2.length : Int) := ⟨_, rfl⟩
        rw [← hB]
        have b0 : gI B 144 0 = (Q.1.2.length : Int) := by rw [hB, gI_nf _ _ (by decide), gI_eq]
        have b1 : gI B 144 1 = (Q.2.length : Int) := by rw [hB, gI_eq]
        have fB : Fr (fun a _ => a == 144) M5 B := by rw [hB]; exact (Fr.rf.up _ rfl).up _ rfl
        clear hB
        refine copy_r s60 (by rw [fB.g rfl]; exact e18) (fun C fC c1 c2 => ?_)
        have f22 : Fr (fun a i => a == 142 && i == 22) C (upI C 142 22 0) := Fr.rf.up _ rfl
        have g22 : gI (upI C 142 22 0) 142 22 = 0 := gI_eq _ _ _ _
        generalize upI C 142 22 0 = D at *
        have d100 : ∀ a j, 145 ≤ a → a ≤ 152 → 0 ≤ j → gI D a (100 + j) = gI M5 a (100 + j) := fun a j a1 a2 j0 => by
          rw [f22.g (by simp; omega), fC.g (by simp [qCp]; omega), fB.g (by simp; omega)]
        have dlow : ∀ a, 145 ≤ a → a ≤ 152 → ∀ j : Nat, j < Q.1.2.length → gI D a (j : Int) = gI M5 a (100 + (j : Int)) := fun a a1 a2 j hj => by
          rw [f22.g (by simp; omega), c1 a a1 a2 j hj, fB.g (by simp; omega)]
        have d142 : ∀ i, i ≠ 22 → 0 ≤ i → gI D 142 i = gI M5 142 i := fun i i1 i0 => by
          rw [f22.g (by simp; omega), fC.g (by simp [qCp]), fB.g rfl]
        refine inprog_r s60 w5.2.1 (by rw [d142 18 (by decide) (by decide)]; exact e18) (fun i hi => ?_) g22 (fun E fE mv e60 => ?_)
        · rw [dlow 145 (by decide) (by decide) i hi, dlow 146 (by decide) (by decide) i hi]
          exact R5.2 i hi
        have ek : ∀ a i, a ≠ 142 → gI E a i = gI D a i := fun a i q => fE.g (by simp [q])
        refine qq E (((((f05.mono (fun a i y => qPf_Pr y)).trans (fB.mono (fun a i y => by simp only [beq_iff_eq] at y; simp [qPr, y]))).trans (fC.mono (fun a i y => ?_))).trans (f22.mono (fun a i y => ?_))).trans (fE.mono (fun a i y => ?_))) ?_ ⟨⟨?_, ?_, e60⟩, ⟨?_, fun i hi => ?_⟩, fun a a1 a2 n hn => ?_, fun n hn => ?_, mv, rp5.cp (fun a j a1 a2 j0 => by rw [ek _ _ (by omega), d100 a j a1 a2 j0])⟩
        · simp only [qCp, Bool.and_eq_true, decide_eq_true_eq] at y
          simp [qPr]; omega
        · simp only [Bool.and_eq_true, beq_iff_eq] at y
          simp [qPr, y]
        · simp only [Bool.and_eq_true, Bool.or_eq_true, beq_iff_eq] at y
          simp [qPr]; omega
        · rw [fE.g rfl, d142 2 (by decide) (by decide)]; exact m25
        · rw [ek _ _ (by decide), f22.g rfl, fC.g rfl]; exact b0
        · rw [ek _ _ (by decide), f22.g rfl, fC.g rfl]; exact b1
        · rw [fE.g rfl, d142 18 (by decide) (by decide)]; exact e18
        · rw [ek _ _ (by decide), ek _ _ (by decide), d100 145 _ (by decide) (by decide) (by omega), d100 146 _ (by decide) (by decide) (by omega)]
          exact R5.2 i hi
        · rw [ek _ _ (by omega), ek _ _ (by omega), dlow a a1 a2 n hn, d100 a _ a1 a2 (by omega)]
        · rw [ek _ _ (by decide), f22.g rfl]; exact c2 n hn
      · rw [if_neg (by omega)]
        exact q2 z (by omega) _ (f05.up _ rfl) (by rw [gI_nf _ _ (by decide)]; exact m25)
    · show (if (0 : Int) = 0 then _ else _)
      rw [if_pos rfl, e5]
      exact q1 z M5 (f03.trans (f5.mono (fun a i y => qS_Pf y))) (by rw [f5.g rfl]; exact m2)
  · have e1 : rst (ub L) N 5 (-1) 0 0 (Q0 (ub L) N) = Q0 (ub L) N := rst_dead al (skA.2.1 al)
    have e2 : prg (ub L) N = Q0 (ub L) N := by
      unfold prg
      rw [e1, blg_stop (fun y => al y.1)]
    rw [e2] at q1
    obtain ⟨t1, ef⟩ := adv_f (u := ub L) (N := N) (s := s0) rfl al
    have p3 : Pnd M3 (adv (ub L) N s0).2.1 := ⟨by rw [hr3.2.2.1, t1]; decide, by rw [f3.g rfl]; exact a8, hr3.2.1, skA.1.1, by have := skA.1; omega⟩
    refine ⟨c, 0, by omega, ?_⟩
    apply k12_row_r (Or.inl rfl) (by decide)
    apply k12_row_6_r (Or.inl rfl) (by decide)
    rw [if_neg (by decide), if_pos rfl, p3.1, if_neg (by decide)]
    refine ⟨c, 0, by omega, pnd_stm (by decide) (by omega) t3 p3 ?_⟩
    rw [if_pos rfl]
    refine row_end (Or.inl rfl) (by decide) ?_
    show (if (0 : Int) = 0 then _ else _)
    rw [if_pos rfl, gI_eq, ← ef]
    exact q1 al _ (f03.up _ rfl) (by rw [gI_nf _ _ (by decide)]; exact m2)

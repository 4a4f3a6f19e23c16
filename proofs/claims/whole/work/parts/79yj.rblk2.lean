/-! the other reader: blocks -/
def BQ (L : Int → Int) (N : Int) (f : Nat) : Prop := ∀ (p b dep : Int) (o : Nat) (Q : Qs) (M : pm_M) (K : Int → pm_M → Prop) (h c : Nat), (o = 150 ∨ o = 151) → 0 ≤ dep → dep ≤ 4 → 4 - dep ≤ f → 154 + 3 * f ≤ h → 0 ≤ p → LQ L N dep Q M → WLs Q.1.2 Q.2 → Opn Q.2 p → PrO Q.1.2 Q.2 p b → J0 p b Q.1.2.length Q.2 → FiS Q.2 p b (p + 1) (gI M o (100 + p)) →
  ((rbl (rst (ub L) N f p b (dep + 1)) (ub L) N dep Q).1.1.2.2.2.2 = 0 → 7 * (rbl (rst (ub L) N f p b (dep + 1)) (ub L) N dep Q).2.length ≤ c + 7 * Q.2.length) → (¬ (rbl (rst (ub L) N f p b (dep + 1)) (ub L) N dep Q).1.1.2.2.2.2 = 0 → 153 ≤ c + 7 * Q.2.length) →
  ((rbl (rst (ub L) N f p b (dep + 1)) (ub L) N dep Q).1.1.2.2.2.2 = 0 → ∀ M', Fr (qW o p Q.1.2.length) M M' → LQ L N dep (rbl (rst (ub L) N f p b (dep + 1)) (ub L) N dep Q) M' → RP2 p b Q.1.2.length o Q.2 (rbl (rst (ub L) N f p b (dep + 1)) (ub L) N dep Q) M' → K 1 M') →
  (¬ (rbl (rst (ub L) N f p b (dep + 1)) (ub L) N dep Q).1.1.2.2.2.2 = 0 → OB L N (rbl (rst (ub L) N f p b (dep + 1)) (ub L) N dep Q).1.1 M K) → k12_block c h o p M K
theorem LQ.lv {L : Int → Int} {N dep : Int} {Q : Qs} {M : pm_M} (h : LQ L N dep Q M) (h1 : 1 ≤ Q.1.2.length) : LV L N 0 Q.1 M := by
  obtain ⟨⟨a, b, c, d⟩, ⟨e, f, g, -⟩, -⟩ := h
  exact ⟨a, b, c, d, e, f, g, by omega⟩
theorem LV.lq {L : Int → Int} {N dep : Int} {S : Ps} {l : List Stm} {M : pm_M} (h : LV L N 0 S M) (hw : WD (ub L) S.1) (h19 : gI M 142 19 = (l.length : Int)) (h21 : gI M 142 21 = dep) : LQ L N dep (S, l) M := by
  obtain ⟨a, b, c, d, e, f, g, -⟩ := h
  exact ⟨⟨a, b, c, d⟩, ⟨e, f, g, hw⟩, h19, h21⟩
theorem RDt.keep {M M' : pm_M} {l : List Stm} {t : Stm} (h : RDt M l t) (k : ∀ a i, a ≠ 142 → gI M' a i = gI M a i) : RDt M' l t := by
  obtain ⟨a1, a2, a3, a4, a7, g, a5⟩ := h
  refine ⟨by rw [k _ _ (by decide)]; exact a1, by rw [k _ _ (by decide)]; exact a2, by rw [k _ _ (by decide)]; exact a3, by rw [k _ _ (by decide)]; exact a4, by rw [k _ _ (by decide)]; exact a7, g, a5.same (fun j _ _ => ⟨k _ _ (by decide), k _ _ (by decide), k _ _ (by decide)⟩) (fun j _ _ => k _ _ (by decide))⟩
theorem RP2.keep {p b : Int} {n0 o : Nat} (ho : o = 150 ∨ o = 151) {l0 : List Stm} {Q Q' : Qs} {M M' : pm_M} (h : RP2 p b n0 o l0 Q M) (e1 : Q'.1.2 = Q.1.2) (e2 : Q'.2 = Q.2) (k : ∀ a i, a ≠ 142 → gI M' a i = gI M a i) : RP2 p b n0 o l0 Q' M' := by
  obtain ⟨a, b', c, d, e⟩ := h
  unfold RP2
  rw [e1, e2]
  refine ⟨a, fun t ht hn => ⟨(b' t ht hn).1.keep k, ?_⟩, fun hp => ?_, d, e⟩
  · have := (b' t ht hn).2
    unfold RNt at this ⊢
    rw [k _ _ (by decide)]; exact this
  · rw [k _ _ (by omega)]; exact c hp
theorem rbl_no {g : Qs → Qs} {u : Int → Int} {N dep : Int} {Q : Qs} (hS : SK N Q.1.1) (h0 : Q.1.1.2.2.2.2 = 0) (hno : ¬ (Q.1.1.2.2.1 = 5 ∧ Q.1.1.2.2.2.1 = 123)) : (rbl g u N dep Q).1.1 = refu Q.1.1 1 := by
  have rno := refu_no hS h0 (k := 1) (by decide)
  unfold rbl
  rw [if_neg (fun z => hno z.1)]
  have e : xmq u N 123 Q = ((refu Q.1.1 1, Q.1.2), Q.2) := by
    unfold xmq exm; rw [if_neg hno, adv_dead rno]
  have d1 : ¬ (xmq u N 123 Q).1.1.2.2.2.2 = 0 := by rw [e]; exact rno
  rw [blf_stop (fun z => d1 z.1), xmq_dead d1, e]
theorem rblkB {L : Int → Int} {N : Int} {f : Nat} (hS : SQ L N f) : BQ L N f := by
  intro p b dep o Q M K h c ho d0 d4 hf hh hp lq w op pr hj hfs hc1 hc2 hA hD
  have hlq := lq
  obtain ⟨⟨⟨hT, hr, hR⟩, hw, e8, e20⟩, ⟨h0, hSk, hle, hWD⟩, e19, e21⟩ := lq
  have n6 := hT.2.1.2
  have hpp := hSk.1
  have hpn := hj.1
  have hE : Hid (gI M 142 8 = 0 ∧ gI M 142 20 = 0 ∧ gI M 142 19 = (Q.2.length : Int) ∧ gI M 142 21 = dep) := ⟨e8, e20, e19, e21⟩
  clear e8 e20 e19 e21
  have l20 := w.1.1
  have bad : ∀ kk : Int, 0 < kk ∧ kk < 8 → (rbl (rst (ub L) N f p b (dep + 1)) (ub L) N dep Q).1.1 = refu Q.1.1 kk → (if gI M 142 8 = 0 then K 0 (upI M 142 8 (w32 ((w32 (8 * (gI M 142 4))) + kk))) else K 0 (upI M 142 8 (gI M 142 8))) := by
    intro kk hk er
    rw [hE.1, if_pos rfl, hr.2.1, bad_w ⟨by omega, by omega⟩ kk hk]
    have rno := refu_no hSk h0 hk.1
    refine (hD (by rw [er]; exact rno)).1 _ (Fr.rf.up _ (by simp [qS, qE])) ?_
    rw [er, gI_eq]
    unfold refu; rw [if_pos h0]
  apply k12_block_r ho (by omega)
  have ty := hSk.2.2.2.2.2.1
  rw [hr.2.2.1]
  by_cases a : tkR Q.1.1.2.2.1 = 3
  case neg =>
    rw [if_neg a]
    exact bad 1 (by decide) (rbl_no hSk h0 (fun z => a ((tk3 ty).2.mpr (Or.inr z.1))))
  rw [if_pos a]
  rcases (tk3 ty).2.mp a with t | t
  · have hn := vcd45 (hSk.2.2.2.2.1 t)
    rw [hr.2.2.2.2.1 t, if_neg hn.2.2.2.2.2.1]
    exact bad 1 (by decide) (rbl_no hSk h0 (fun z => by omega))
  rw [hr.2.2.2.2.2 t]
  by_cases v : Q.1.1.2.2.2.1 = 123
  case neg =>
    rw [if_neg v]
    exact bad 1 (by decide) (rbl_no hSk h0 (fun z => v z.2))
  rw [if_pos v, hE.2.2.2]
  by_cases hd : dep = 4
  · rw [if_pos hd]
    refine bad 2 (by decide) ?_
    unfold rbl; rw [if_pos ⟨⟨t, v⟩, by omega⟩]; rfl
  rw [if_neg hd]
  have hrb : rbl (rst (ub L) N f p b (dep + 1)) (ub L) N dep Q = xmq (ub L) N 125 (blf (rst (ub L) N f p b (dep + 1)) 600 (avq (ub L) N Q)) := by
    unfold rbl
    rw [if_neg (fun z => by omega)]
    have e : xmq (ub L) N 123 Q = avq (ub L) N Q := by unfold xmq avq exm; rw [if_pos ⟨t, v⟩]
    rw [e]
  rw [hrb] at hc1 hc2 hA hD
  clear hrb
  have wd : w32 (dep + 1) = dep + 1 := w32_id (by omega)
  rw [wd]
  have f0 : Fr (fun a i => a == 142 && i == 21) M (upI M 142 21 (dep + 1)) := Fr.rf.up _ rfl
  have k21 : Hid (gI (upI M 142 21 (dep + 1)) 142 21 = dep + 1) := gI_eq _ _ _ _
  generalize upI M 142 21 (dep + 1) = M0 at *
  have t0 : TpR L N M0 := hT.fr f0 rfl (fun _ => rfl)
  have R0 : RN Q.1.2 M0 := ⟨by rw [f0.g rfl]; exact hR.1, fun i hi => by rw [f0.g rfl, f0.g rfl]; exact hR.2 i hi⟩
  have w0 : RW Q.1.2 M0 := fun i hi => by rw [f0.g rfl, f0.g rfl, f0.g rfl]; exact hw i hi
  have f0S : Fr (qS Q.1.2.length) M M0 := f0.mono (fun a i y => by simp only [Bool.and_eq_true, beq_iff_eq] at y; simp [qS, y])
  have wdn : w32 (dep + 1 - 1) = dep := by rw [w32_id (by omega)]; omega
  refine goL (d := 0) (s := Q.1.1) (l := Q.1.2) t0 (by rw [f0.g rfl]; exact hr.1) hSk h0 (by omega) (by omega) R0 w0 (by rw [f0.g rfl]; exact hE.1) (by rw [f0.g rfl]; exact hE.2.1) ?_ ?_
  · intro z M5 f5 lv5
    have f05 : Fr (qS Q.1.2.length) M M5 := f0S.trans (f5.mono (fun a i y => q7_S y))
    have lq5 : LQ L N (dep + 1) (avq (ub L) N Q) M5 := lv5.lq (hWD.av hSk) (by rw [f5.g rfl, f0.g rfl]; exact hE.2.2.1) (by rw [f5.g rfl]; exact k21)
    have gpq : GP N (avq (ub L) N Q).1 := hlq.gp.av
    have fs5 : FiS (avq (ub L) N Q).2 p b (p + 1) (gI M5 o (100 + p)) := by
      rw [f05.g (by simp [qS, qE]; omega)]; exact hfs
    have bw20 : (blf (rst (ub L) N f p b (dep + 1)) 600 (avq (ub L) N Q)).1.1.2.2.2.2 = 0 → (blf (rst (ub L) N f p b (dep + 1)) 600 (avq (ub L) N Q)).2.length ≤ 20 ∧ 1 ≤ (blf (rst (ub L) N f p b (dep + 1)) 600 (avq (ub L) N Q)).1.2.length := by
      intro y
      obtain ⟨⟨X, D, e1, -⟩, w', -⟩ := blf_ok (fun Q hQ => rst_GP f p b (dep + 1) Q hQ) (fun Q hQ hz hw ho hp ha => (rst_keep (by omega) (by omega) (by omega) hQ (fun _ => ⟨hw, ho, hp⟩) ha).2) 600 (avq (ub L) N Q) gpq w op pr y
      refine ⟨w'.1.1, ?_⟩
      rw [e1, List.length_append]
      show 1 ≤ Q.1.2.length + X.length
      omega
    refine ⟨c, 0, by omega, rrowB hS ho (by omega) (by omega) (by omega) (by omega) hp lq5 w op pr hj fs5 (fun y => ?_) (fun y => ?_) (fun y M7 f7 lq7 mk rp7 => ?_) (fun y M7 f7 e7 => ?_)⟩
    · by_cases q : (xmq (ub L) N 125 (blf (rst (ub L) N f p b (dep + 1)) 600 (avq (ub L) N Q))).1.1.2.2.2.2 = 0
      · exact hc1 q
      · have h1 := hc2 q
        have h2 := (bw20 y).1
        show 7 * (blf (rst (ub L) N f p b (dep + 1)) 600 (avq (ub L) N Q)).2.length ≤ c + 7 * Q.2.length
        omega
    · refine hc2 ?_
      rw [xmq_dead y]; exact y
    · show (if (1 : Int) = 0 then _ else _)
      rw [if_neg (by decide)]
      have h1 := (bw20 y).2
      have f07 : Fr (qW o p Q.1.2.length) M M7 := (f05.mono (fun a i y => qS_W y)).trans f7
      have e21' := lq7.2.2.2
      have e19' := lq7.2.2.1
      have lv7 := lq7.lv h1
      have wd7 := lq7.2.1.2.2.2
      have sk7 := lq7.2.1.2.1
      clear lq7
      generalize blf (rst (ub L) N f p b (dep + 1)) 600 (avq (ub L) N Q) = Q1 at *
      have exm7 : exm (ub L) N 125 Q1.1.1 = adv (ub L) N Q1.1.1 := by unfold exm; rw [if_pos mk]
      refine signL (by decide) lv7 ?_ ?_ ?_
      · intro s5 sc z2 M8 f8 lv8
        rw [if_neg (by decide)]
        have e8' : gI M8 142 21 = dep + 1 := by rw [f8.g rfl]; exact e21'
        rw [e8', wdn]
        have al : (xmq (ub L) N 125 Q1).1.1.2.2.2.2 = 0 := by
          show (exm (ub L) N 125 Q1.1.1).2.2.2.2 = 0
          rw [exm7]; exact z2
        have ne9 : ∀ a i, a ≠ 142 → gI (upI M8 142 21 dep) a i = gI M7 a i := fun a i q => by
          rw [gI_ne _ _ _ _ q, f8.g (by simp [q7, q])]
        have lq9 : LQ L N dep (xmq (ub L) N 125 Q1) (upI M8 142 21 dep) := by
          have lq8 : LQ L N (dep + 1) (xmq (ub L) N 125 Q1) M8 := by
            have : xmq (ub L) N 125 Q1 = ((adv (ub L) N Q1.1.1, Q1.1.2), Q1.2) := by unfold xmq; rw [exm7]
            rw [this]
            exact lv8.lq (wd7.av sk7) (by rw [f8.g rfl]; exact e19') e8'
          obtain ⟨⟨⟨b1, b2, b3⟩, b4, b5, b6⟩, b7, b8, -⟩ := lq8
          have n21 : ∀ i, i ≠ 21 → 0 ≤ i → gI (upI M8 142 21 dep) 142 i = gI M8 142 i := fun i q i0 => gI_nf _ _ (by omega)
          have nne : ∀ a i, a ≠ 142 → gI (upI M8 142 21 dep) a i = gI M8 a i := fun a i q => gI_ne _ _ _ _ q
          refine ⟨⟨⟨⟨?_, b1.2.1, fun i i0 i1 => ?_⟩, ?_, ⟨?_, fun i hi => ?_⟩⟩, fun i hi => ?_, ?_, ?_⟩, b7, ?_, gI_eq _ _ _ _⟩
          · rw [n21 _ (by decide) (by decide)]; exact b1.1
          · rw [nne _ _ (by decide)]; exact b1.2.2 i i0 i1
          · unfold Hr; rw [n21 _ (by decide) (by decide), n21 _ (by decide) (by decide), n21 _ (by decide) (by decide), n21 _ (by decide) (by decide)]; exact b2
          · rw [n21 _ (by decide) (by decide)]; exact b3.1
          · rw [nne _ _ (by decide), nne _ _ (by decide)]; exact b3.2 i hi
          · rw [nne _ _ (by decide), nne _ _ (by decide), nne _ _ (by decide)]; exact b4 i hi
          · rw [n21 _ (by decide) (by decide)]; exact b5
          · rw [n21 _ (by decide) (by decide)]; exact b6
          · rw [n21 _ (by decide) (by decide)]; exact b8
        exact hA al _ ((f07.trans (f8.mono (fun a i y => qS_W (q7_S y)))).up _ (by simp [qW, qS, qE])) lq9 (rp7.keep ho rfl rfl ne9)
      · intro s5 sc z2 M8 f8 t8 p8 e8'
        rw [if_neg (by decide)]
        have al : (xmq (ub L) N 125 Q1).1.1 = adv (ub L) N Q1.1.1 := exm7
        have al0 : ¬ (xmq (ub L) N 125 Q1).1.1.2.2.2.2 = 0 := by rw [al]; exact z2
        have hd2 := (hD al0).2
        rw [al] at hd2
        refine hd2 _ (((f07.mono (fun a i y => qW_0 ho hp y)).trans (f8.mono (fun a i y => q7_S y))).up _ (by simp [qS, qE])) (t8.fr (p := fun a i => a == 142 && i == 21) (Fr.rf.up _ rfl) rfl (fun _ => rfl)) ⟨?_, ?_, ?_, p8.2.2.2⟩ e8'
        · rw [gI_nf _ _ (by decide)]; exact p8.1
        · rw [gI_nf _ _ (by decide)]; exact p8.2.1
        · rw [gI_nf _ _ (by decide)]; exact p8.2.2.1
      · intro hno; exact absurd mk hno
    · show (if (0 : Int) = 0 then _ else _)
      rw [if_pos rfl]
      have ed := xmq_dead (u := ub L) (N := N) (c := 125) y
      rw [ed] at hD
      refine (hD y).1 _ (((f05.mono (fun a i y => qS_mono (Nat.zero_le _) y)).trans f7).up _ (by simp [qS, qE])) ?_
      rw [gI_nf _ _ (by decide)]; exact e7
  · intro z M5 f5 t5 p5 e5
    have f05 : Fr (qS 0) M M5 := (f0S.mono (fun a i y => qS_mono (Nat.zero_le _) y)).trans (f5.mono (fun a i y => q7_S y))
    have dav : ¬ (avq (ub L) N Q).1.1.2.2.2.2 = 0 := z
    have eb : blf (rst (ub L) N f p b (dep + 1)) 600 (avq (ub L) N Q) = avq (ub L) N Q := blf_stop (fun y => dav y.1)
    rw [eb, xmq_dead dav] at hD hc2
    have h1 := hc2 dav
    refine ⟨c, 0, by omega, ?_⟩
    apply k12_row_r ho (by omega)
    apply k12_row_6_r ho (by omega)
    rw [if_neg (by decide), if_neg (by decide), p5.1, if_neg (by decide)]
    refine ⟨c, 0, by omega, pnd_stm (by omega) (by omega) t5 p5 ?_⟩
    rw [if_pos rfl]
    refine row_end ho (by omega) ?_
    show (if (0 : Int) = 0 then _ else _)
    rw [if_pos rfl]
    refine (hD dav).1 _ ((f05.up _ (by simp [qS, qE])).up _ (by simp [qS, qE])) ?_
    rw [gI_nf _ _ (by decide), gI_eq]
    exact e5.symm

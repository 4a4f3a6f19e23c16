/-! the other reader: a block's row -/
def qW (o : Nat) (p : Int) (n0 a i : Nat) : Bool := qS n0 a i || (a == o && decide ((i : Int) = 100 + p))
theorem qS_W {o : Nat} {p : Int} {n0 a i : Nat} (h : qS n0 a i = true) : qW o p n0 a i = true := by simp only [qW, h, Bool.true_or]
theorem qW_0 {o : Nat} (ho : o = 150 ∨ o = 151) {p : Int} (hp : 0 ≤ p) {n0 a i : Nat} (h : qW o p n0 a i = true) : qS 0 a i = true := by
  simp only [qW, Bool.or_eq_true] at h
  rcases h with h | h
  · exact qS_mono (Nat.zero_le _) h
  · simp only [Bool.and_eq_true, beq_iff_eq, decide_eq_true_eq] at h
    simp [qS, qE]; omega
def SQ (L : Int → Int) (N : Int) (f : Nat) : Prop := ∀ (p b dep : Int) (Q : Qs) (M : pm_M) (K : Int → pm_M → Prop) (h c : Nat), 0 ≤ dep → dep ≤ 4 → 5 - dep ≤ f → 152 + 3 * f ≤ h → LQ L N dep Q M → WLs Q.1.2 Q.2 → Opn Q.2 p → PrO Q.1.2 Q.2 p b →
  ((rst (ub L) N f p b dep Q).1.1.2.2.2.2 = 0 → 7 * (rst (ub L) N f p b dep Q).2.length ≤ c + 7 * Q.2.length) → (¬ (rst (ub L) N f p b dep Q).1.1.2.2.2.2 = 0 → 150 ≤ c + 7 * Q.2.length) →
  ((rst (ub L) N f p b dep Q).1.1.2.2.2.2 = 0 → ∀ M', Fr (qS Q.1.2.length) M M' → LQ L N dep (rst (ub L) N f p b dep Q) M' → (∀ t ∈ (rst (ub L) N f p b dep Q).2, (Q.1.2.length : Int) ≤ t.1 → RDt M' (rst (ub L) N f p b dep Q).2 t) → (∀ t ∈ (rst (ub L) N f p b dep Q).2, (Q.1.2.length : Int) < t.1 → RNt M' (rst (ub L) N f p b dep Q).2 t) → gI M' 152 (100 + (Q.1.2.length : Int)) = -1 → K 1 M') →
  (¬ (rst (ub L) N f p b dep Q).1.1.2.2.2.2 = 0 → OB L N (rst (ub L) N f p b dep Q).1.1 M K) → k12_statement c h p M K
/-- a row behind its last statement -/
def RP2 (p b : Int) (n0 o : Nat) (l0 : List Stm) (Q : Qs) (M : pm_M) : Prop := (WLs Q.1.2 Q.2 ∧ Opn Q.2 p ∧ PrO Q.1.2 Q.2 p b ∧ n0 ≤ Q.1.2.length) ∧ (∀ t ∈ Q.2, (n0 : Int) ≤ t.1 → RDt M Q.2 t ∧ RNt M Q.2 t) ∧ (0 ≤ p → FiS Q.2 p b (p + 1) (gI M o (100 + p))) ∧ (∀ t ∈ l0, t ∈ Q.2) ∧ (∀ t ∈ Q.2, t ∈ l0 ∨ ((n0 : Int) ≤ t.1 ∧ ((t.2.1 = p ∧ t.2.2.1 = b) ∨ (n0 : Int) ≤ t.2.1)))
theorem JR.fin {L : Int → Int} {N p b dep : Int} {n0 o : Nat} {l0 : List Stm} {Q : Qs} {M : pm_M} {last : Int} (h : JR L N p b dep n0 o l0 Q M last) (hj : J0 p b n0 l0) : RP2 p b n0 o l0 Q M := by
  obtain ⟨lq, w, rd, rn, fs, s1, s2, hl⟩ := h
  refine ⟨w, fun t ht hn => ⟨rd t ht hn, ?_⟩, fs, s1, s2⟩
  by_cases e : t.1 = last
  case neg => exact rn t ht hn e
  rcases hl with ⟨y, y'⟩ | ⟨s, y1, y2, y3, y4, y5, y6, y7⟩
  · have := hj.2.1 t (y' t ht); omega
  · have es : t = s := w.1.inj ht y1 (by omega)
    subst es
    have hpn := hj.1
    unfold RNt
    rw [e, y4, y5, y7]
    refine Or.inl ⟨rfl, fun s hs z => ?_⟩
    have := y6 s hs (by omega)
    omega
theorem rrowB {L : Int → Int} {N : Int} {f : Nat} (hS : SQ L N f) {p b dep : Int} {o : Nat} {Q : Qs} {M : pm_M} {K : Int → pm_M → Prop} {h c : Nat} (ho : o = 150 ∨ o = 151) (d0 : 0 ≤ dep) (d4 : dep ≤ 4) (hf : 5 - dep ≤ f) (hh : 153 + 3 * f ≤ h) (hp : 0 ≤ p) (lq : LQ L N dep Q M) (w : WLs Q.1.2 Q.2) (op : Opn Q.2 p) (pr : PrO Q.1.2 Q.2 p b) (hj : J0 p b Q.1.2.length Q.2) (hfs : FiS Q.2 p b (p + 1) (gI M o (100 + p)))
    (hc1 : (blf (rst (ub L) N f p b dep) 600 Q).1.1.2.2.2.2 = 0 → 7 * (blf (rst (ub L) N f p b dep) 600 Q).2.length ≤ c + 7 * Q.2.length) (hc2 : ¬ (blf (rst (ub L) N f p b dep) 600 Q).1.1.2.2.2.2 = 0 → 153 ≤ c + 7 * Q.2.length)
    (hA : (blf (rst (ub L) N f p b dep) 600 Q).1.1.2.2.2.2 = 0 → ∀ M', Fr (qW o p Q.1.2.length) M M' → LQ L N dep (blf (rst (ub L) N f p b dep) 600 Q) M' → ((blf (rst (ub L) N f p b dep) 600 Q).1.1.2.2.1 = 5 ∧ (blf (rst (ub L) N f p b dep) 600 Q).1.1.2.2.2.1 = 125) → RP2 p b Q.1.2.length o Q.2 (blf (rst (ub L) N f p b dep) 600 Q) M' → K 1 M')
    (hD : ¬ (blf (rst (ub L) N f p b dep) 600 Q).1.1.2.2.2.2 = 0 → ∀ M', Fr (qS 0) M M' → gI M' 142 8 = (blf (rst (ub L) N f p b dep) 600 Q).1.1.2.2.2.2 → K 0 M') : k12_row c h o p 1 M K := by
  apply k12_row_r ho (by omega)
  have hpn := hj.1
  have loop : ∀ (n : Nat) (Q1 : Qs) (M1 : pm_M) (last : Int) (c1 : Nat), JR L N p b dep Q.1.2.length o Q.2 Q1 M1 last → 21 ≤ Q1.2.length + n → Fr (qW o p Q.1.2.length) M M1 → blf (rst (ub L) N f p b dep) n Q1 = blf (rst (ub L) N f p b dep) 600 Q → ((blf (rst (ub L) N f p b dep) 600 Q).1.1.2.2.2.2 = 0 → 7 * (blf (rst (ub L) N f p b dep) 600 Q).2.length ≤ c1 + 7 * Q1.2.length) → (¬ (blf (rst (ub L) N f p b dep) 600 Q).1.1.2.2.2.2 = 0 → 153 ≤ c1 + 7 * Q1.2.length) → k12_row_6 c1 h o p 1 last 1 M1 K := by
    intro n
    induction n with
    | zero =>
      intro Q1 M1 last c1 j h21
      have := j.2.1.1.1.1
      omega
    | succ n ih =>
      intro Q1 M1 last c1 j h21 f1 eb k1 k2
      have j' := j
      obtain ⟨lq1, ⟨w1, op1, pr1, hn0⟩, -, -, -, -, -, hl⟩ := j'
      obtain ⟨⟨⟨hT, hr, hR⟩, hw, e8, e20⟩, ⟨h0, hSk, hle, hWD⟩, e19, e21⟩ := lq1
      clear e8 e20 e19 e21
      have n6 := hT.2.1.2
      have hpp := hSk.1
      have hlast : last = -1 ∨ (0 ≤ last ∧ last < (Q1.1.2.length : Int)) := by
        rcases hl with ⟨y, -⟩ | ⟨t, t1, t2, t3, -⟩
        · exact Or.inl y
        · have := (w1.2.2.2.1 t t1).1; exact Or.inr ⟨by omega, by omega⟩
      clear hl
      have wp : w32 (100 + p) = 100 + p := w32_id (by omega)
      have e18 : gI M1 142 18 = (Q1.1.2.length : Int) := hR.1
      have go : ¬ (Q1.1.1.2.2.1 = 5 ∧ Q1.1.1.2.2.2.1 = 125) → (∃ c40 c41 : Nat, c40 + c41 ≤ c1 ∧ k12_statement c40 (h - 1) p M1 (fun r39 M38 => (if r39 = 0 then k12_row_6 c41 h o p 1 (gI M1 142 18) r39 M38 K else (if last = (-1) then (if p = (-1) then k12_row_6 c41 h o p 1 (gI M1 142 18) r39 M38 K else ((0 ≤ w32 (100 + p) ∧ w32 (100 + p) < 800) ∧ k12_row_6 c41 h o p 1 (gI M1 142 18) r39 (upI M38 o (w32 (100 + p)) (gI M1 142 18)) K)) else ((0 ≤ w32 (100 + last) ∧ w32 (100 + last) < 800) ∧ k12_row_6 c41 h o p 1 (gI M1 142 18) r39 (upI M38 152 (w32 (100 + last)) (gI M1 142 18)) K))))) := by
        intro hno
        rw [blf_next ⟨h0, hno⟩] at eb
        rw [e18]
        have pne : ¬ p = -1 := by omega
        -- what is written behind a statement
        have wr : ∀ (c2 : Nat) (M2 : pm_M), (∀ M3, ((last = -1 ∧ p < 0 ∧ M3 = M2) ∨ (last = -1 ∧ 0 ≤ p ∧ M3 = upI M2 o (100 + p) (Q1.1.2.length : Int)) ∨ (¬ last = -1 ∧ M3 = upI M2 152 (100 + last) (Q1.1.2.length : Int))) → k12_row_6 c2 h o p 1 (Q1.1.2.length : Int) 1 M3 K) → (if (1 : Int) = 0 then k12_row_6 c2 h o p 1 (Q1.1.2.length : Int) 1 M2 K else (if last = (-1) then (if p = (-1) then k12_row_6 c2 h o p 1 (Q1.1.2.length : Int) 1 M2 K else ((0 ≤ w32 (100 + p) ∧ w32 (100 + p) < 800) ∧ k12_row_6 c2 h o p 1 (Q1.1.2.length : Int) 1 (upI M2 o (w32 (100 + p)) (Q1.1.2.length : Int)) K)) else ((0 ≤ w32 (100 + last) ∧ w32 (100 + last) < 800) ∧ k12_row_6 c2 h o p 1 (Q1.1.2.length : Int) 1 (upI M2 152 (w32 (100 + last)) (Q1.1.2.length : Int)) K))) := by
          intro c2 M2 hk
          rw [if_neg (by decide)]
          by_cases z : last = -1
          · rw [if_pos z, if_neg pne, wp]
            exact ⟨⟨by omega, by omega⟩, hk _ (Or.inr (Or.inl ⟨z, hp, rfl⟩))⟩
          · have wl : w32 (100 + last) = 100 + last := w32_id (by omega)
            rw [if_neg z, wl]
            exact ⟨⟨by omega, by omega⟩, hk _ (Or.inr (Or.inr ⟨z, rfl⟩))⟩
        by_cases al : (rst (ub L) N f p b dep Q1).1.1.2.2.2.2 = 0
        · obtain ⟨m1, m2, m3, w2, op2, pr2, ok2, hk2, hlen⟩ := rst_mem d0 d4 hf j.1.gp h0 w1 op1 pr1 al
          have hcc : 7 * (rst (ub L) N f p b dep Q1).2.length ≤ c1 + 7 * Q1.2.length := by
            by_cases z : (blf (rst (ub L) N f p b dep) 600 Q).1.1.2.2.2.2 = 0
            · have hb := blf_ok (fun Q hQ => rst_GP f p b dep Q hQ) (fun Q hQ hz hw ho hp ha => (rst_keep d0 d4 hf hQ (fun _ => ⟨hw, ho, hp⟩) ha).2) n (rst (ub L) N f p b dep Q1) (rst_GP f p b dep Q1 j.1.gp) w2 op2 pr2 (by rw [eb]; exact z)
              obtain ⟨⟨X, D, -, e2⟩, -⟩ := hb
              rw [eb] at e2
              have h3 := k1 z
              rw [e2, List.length_append] at h3
              omega
            · have h3 := k2 z
              have h4 := w2.1.1
              omega
          refine ⟨7 * (rst (ub L) N f p b dep Q1).2.length - 7 * Q1.2.length, c1 - (7 * (rst (ub L) N f p b dep Q1).2.length - 7 * Q1.2.length), by omega, ?_⟩
          refine hS p b dep Q1 M1 _ (h - 1) _ d0 d4 hf (by omega) j.1 w1 op1 pr1 (fun _ => by omega) (fun z => absurd al z) (fun _ M2 f2 lq2 rd2 rn2 e2 => ?_) (fun z => absurd al z)
          refine wr _ M2 (fun M3 hM => ?_)
          have j3 := j.step ho d0 d4 hf hj al f2 lq2 rd2 rn2 e2 hM
          have f23 : Fr (qW o p Q.1.2.length) M M3 := by
            have f12 := f1.trans (f2.mono (fun a i y => qS_W (qS_mono hn0 y)))
            rcases hM with ⟨-, -, y⟩ | ⟨-, -, y⟩ | ⟨z, y⟩
            · rw [y]; exact f12
            · rw [y]; exact f12.up _ (by simp [qW] <;> omega)
            · rw [y]
              have hl2 : (Q.1.2.length : Int) ≤ last := by
                obtain ⟨-, -, -, -, -, -, -, hl⟩ := j
                rcases hl with ⟨y', -⟩ | ⟨t, t1, t2, t3, -⟩
                · exact absurd y' z
                · exact t3
              exact f12.up _ (by simp [qW, qS, qE] <;> omega)
          exact ih _ M3 _ _ j3 (by omega) f23 eb (fun z => by have := k1 z; omega) (fun z => by have := k2 z; omega)
        · have hbs : blf (rst (ub L) N f p b dep) n (rst (ub L) N f p b dep Q1) = rst (ub L) N f p b dep Q1 := blf_stop (fun y => al y.1)
          rw [hbs] at eb
          rw [← eb] at hD k2
          have kc := k2 al
          have hl20 := w1.1.1
          refine ⟨c1 - 3, 3, by omega, ?_⟩
          refine hS p b dep Q1 M1 _ (h - 1) _ d0 d4 hf (by omega) j.1 w1 op1 pr1 (fun z => absurd z al) (fun _ => by omega) (fun z => absurd z al) (fun _ => ⟨fun M2 f2 e2 => ?_, fun M2 f2 t2 p2 e2 => ?_⟩)
          · show (if (0 : Int) = 0 then _ else _)
            rw [if_pos rfl]
            exact row_end ho (by omega) (hD al M2 ((f1.mono (fun a i y => qW_0 ho hp y)).trans f2) e2)
          · refine wr 3 M2 (fun M3 hM => ?_)
            have f23 : Fr (fun a _ => 150 ≤ a && a ≤ 152) M2 M3 := by
              rcases hM with ⟨-, -, y⟩ | ⟨-, -, y⟩ | ⟨-, y⟩
              · rw [y]; exact Fr.rf
              · rw [y]; exact Fr.rf.up _ (by simp; omega)
              · rw [y]; exact Fr.rf.up _ rfl
            have f03 : Fr (qS 0) M M3 := by
              have f12 := (f1.mono (fun a i y => qW_0 ho hp y)).trans f2
              rcases hM with ⟨-, -, y⟩ | ⟨-, -, y⟩ | ⟨z, y⟩
              · rw [y]; exact f12
              · rw [y]; exact f12.up _ (by simp [qS, qE]; omega)
              · rw [y]; exact f12.up _ (by simp [qS, qE]; omega)
            have p3 : Pnd M3 (rst (ub L) N f p b dep Q1).1.1.2.1 := ⟨by rw [f23.g rfl]; exact p2.1, by rw [f23.g rfl]; exact p2.2.1, by rw [f23.g rfl]; exact p2.2.2.1, p2.2.2.2⟩
            have t3 : TpR L N M3 := t2.fr f23 rfl (fun _ => rfl)
            apply k12_row_6_r ho (by omega)
            rw [if_neg (by decide), if_neg (by decide), p3.1, if_neg (by decide)]
            refine ⟨3, 0, by decide, pnd_stm (by omega) (Nat.le_refl _) t3 p3 ?_⟩
            rw [if_pos rfl]
            refine row_end ho (by omega) (hD al _ (f03.up _ (by simp [qS, qE])) ?_)
            rw [gI_eq, e2]
      apply k12_row_6_r ho (by omega)
      rw [if_neg (by decide), if_neg (by decide), hr.2.2.1]
      have ty := hSk.2.2.2.2.2.1
      by_cases a : tkR Q1.1.1.2.2.1 = 3
      · rw [if_pos a]
        rcases (tk3 ty).2.mp a with t | t
        · have hn := vcd45 (hSk.2.2.2.2.1 t)
          rw [hr.2.2.2.2.1 t, if_neg hn.2.2.2.2.2.2]
          exact go (fun z => by omega)
        · rw [hr.2.2.2.2.2 t]
          by_cases v : Q1.1.1.2.2.2.1 = 125
          · rw [if_pos v]
            have eb' : Q1 = blf (rst (ub L) N f p b dep) 600 Q := by
              rw [← eb, blf_stop (fun y => y.2 ⟨t, v⟩)]
            rw [← eb'] at hA
            exact ⟨Or.inr rfl, hA h0 M1 f1 j.1 ⟨t, v⟩ (j.fin hj)⟩
          · rw [if_neg v]; exact go (fun z => v z.2)
      · rw [if_neg a]
        exact go (fun z => a ((tk3 ty).2.mpr (Or.inr z.1)))
  exact loop 600 Q M (-1) c ⟨lq, ⟨w, op, pr, Nat.le_refl _⟩, fun t ht hn => absurd (hj.2.1 t ht) (by omega), fun t ht hn _ => absurd (hj.2.1 t ht) (by omega), fun _ => hfs, fun t ht => ht, fun t ht => Or.inl ht, Or.inl ⟨rfl, fun t ht => ht⟩⟩ (by omega) Fr.rf rfl hc1 hc2

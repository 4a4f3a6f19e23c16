/-! statements and blocks read into the rows -/
def PSt (L : Int → Int) (N : Int) (o f : Nat) : Prop := ∀ (par br dep : Int) (Q : Qs) (M : pm_M) (K : pm_M → Prop) (h : Nat), 0 ≤ dep → dep ≤ 4 → 5 - dep ≤ f → 101 + 2 * f ≤ h → GP N Q.1 → CQ L N o Q M → (Q.1.1.2.2.2.2 = 0 → WLs Q.1.2 Q.2 ∧ Opn Q.2 par ∧ PrO Q.1.2 Q.2 par br) → (∀ M', Fr (pS o) M M' → CQ L N o (rst (ub L) N f par br dep Q) M' → K M') → k4_readStatement h o par br dep M K
def PBk (L : Int → Int) (N : Int) (o f : Nat) : Prop := ∀ (k br dep : Int) (Q : Qs) (M : pm_M) (K : pm_M → Prop) (h : Nat), 0 ≤ dep → dep ≤ 4 → 4 - dep ≤ f → 102 + 2 * f ≤ h → GP N Q.1 → CQ L N o Q M → (Q.1.1.2.2.2.2 = 0 → WLs Q.1.2 Q.2 ∧ Opn Q.2 k ∧ PrO Q.1.2 Q.2 k br) → (∀ M', Fr (pS o) M M' → CQ L N o (rbl (rst (ub L) N f k br (dep + 1)) (ub L) N dep Q) M' → K M') → k4_readBlock h o k br dep M K
theorem rst_keep {u : Int → Int} {N : Int} {f : Nat} {par br dep : Int} {Q : Qs} (d0 : 0 ≤ dep) (d4 : dep ≤ 4) (hf : 5 - dep ≤ f) (hG : GP N Q.1) (hW : Q.1.1.2.2.2.2 = 0 → WLs Q.1.2 Q.2 ∧ Opn Q.2 par ∧ PrO Q.1.2 Q.2 par br) (ha : (rst u N f par br dep Q).1.1.2.2.2.2 = 0) : Q.1.1.2.2.2.2 = 0 ∧ Rl par Q (rst u N f par br dep Q) := by
  have h0 : Q.1.1.2.2.2.2 = 0 := Decidable.byContradiction (fun z => by rw [rst_dead z (hG.1.2.1 z)] at ha; exact z ha)
  obtain ⟨w, o, p⟩ := hW h0
  obtain ⟨q1, q2, q3, q4⟩ := rst_ok f par br dep Q d0 d4 hf hG h0 w o p ha
  obtain ⟨E, g, -, e2, e3, r, o2⟩ := exq_ok hG h0 q1 q2 w o p q3
  have := p.lt w
  exact ⟨h0, r.tr (q4.dn (by omega))⟩
theorem cblk {L : Int → Int} {N : Int} {o f : Nat} (ho : o = 2 ∨ o = 36) (hS : PSt L N o f) : PBk L N o f := by
  intro k br dep Q M K h d0 d4 hf hh hG hC hW hq
  have rest : ∀ (n : Nat) (i : Int) (Q1 : Qs) (M1 : pm_M), i + n = 600 → 0 ≤ i → GP N Q1.1 → CQ L N o Q1 M1 → (Q1.1.1.2.2.2.2 = 0 → dep < 4 ∧ WLs Q1.1.2 Q1.2 ∧ Opn Q1.2 k ∧ PrO Q1.1.2 Q1.2 k br) → Fr (pS o) M M1 → (∀ M', Fr (pS o) M M' → CQ L N o (xmq (ub L) N 125 (blf (rst (ub L) N f k br (dep + 1)) n Q1)) M' → K M') → k4_readBlock_38 h o k br dep i M1 K := by
    intro n
    induction n with
    | zero =>
      intro i Q1 M1 hi i0 g1 c1 w1 f1 hq1
      apply k4_readBlock_38_r ho (by omega)
      rw [if_neg (by omega)]
      exact cmark_r ho g1 c1 (fun M2 f2 c2 => hq1 M2 (f1.trans f2) c2)
    | succ n ih =>
      intro i Q1 M1 hi i0 g1 c1 w1 f1 hq1
      apply k4_readBlock_38_r ho (by omega)
      have hs := c1.1.2.1
      rw [if_pos (by omega), hs.2.2.2.2, hs.2.2.1, hs.2.2.2.1]
      have stop : ¬ (Q1.1.1.2.2.2.2 = 0 ∧ ¬ (Q1.1.1.2.2.1 = 5 ∧ Q1.1.1.2.2.2.1 = 125)) → k7_expectMark 125 M1 (fun M5 => K M5) := by
        intro hno
        rw [blf_stop hno] at hq1
        exact cmark_r ho g1 c1 (fun M2 f2 c2 => hq1 M2 (f1.trans f2) c2)
      have go : (Q1.1.1.2.2.2.2 = 0 ∧ ¬ (Q1.1.1.2.2.1 = 5 ∧ Q1.1.1.2.2.2.1 = 125)) → k4_readStatement (h - 1) o k br (w32 (dep + 1)) M1 (fun M7 => k4_readBlock_38 h o k br dep (w32 (i + 1)) M7 K) := by
        intro hgo
        rw [blf_next hgo] at hq1
        rw [w32_id (show -2147483648 ≤ dep + 1 ∧ dep + 1 < 2147483648 by omega), w32_id (show -2147483648 ≤ i + 1 ∧ i + 1 < 2147483648 by omega)]
        obtain ⟨hd, w2⟩ := w1 hgo.1
        refine hS k br (dep + 1) Q1 M1 _ (h - 1) (by omega) (by omega) (by omega) (by omega) g1 c1 (fun _ => w2) (fun M2 f2 c2 => ?_)
        refine ih (i + 1) _ M2 (by omega) (by omega) (rst_GP f _ _ _ _ g1) c2 (fun z => ?_) (f1.trans f2) hq1
        obtain ⟨-, r⟩ := rst_keep (by omega) (by omega) (by omega) g1 (fun _ => w2) z
        exact ⟨hd, r.2.1, r.2.2 k (Int.le_refl _) w2.2.1, r.pr w2.1 w2.2.2⟩
      by_cases z : Q1.1.1.2.2.2.2 = 0
      · rw [if_pos z]
        by_cases t5 : Q1.1.1.2.2.1 = 5
        · rw [if_pos t5]
          by_cases v : Q1.1.1.2.2.2.1 = 125
          · rw [if_pos v]; exact stop (fun y => y.2 ⟨t5, v⟩)
          · rw [if_neg v]; exact go ⟨z, fun y => v y.2⟩
        · rw [if_neg t5]; exact go ⟨z, fun y => t5 y.1⟩
      · rw [if_neg z]; exact stop (fun y => z y.1)
  have hs := hC.1.2.1
  have main : ¬ ((Q.1.1.2.2.1 = 5 ∧ Q.1.1.2.2.2.1 = 123) ∧ 4 ≤ dep) → k7_expectMark 123 M (fun M4 => k4_readBlock_38 h o k br dep 0 M4 K) := by
    intro hno
    unfold rbl at hq
    rw [if_neg hno] at hq
    refine cmark_r ho hG hC (fun M1 f1 c1 => ?_)
    have g1 : GP N (xmq (ub L) N 123 Q).1 := hG.xm
    refine rest 600 0 _ M1 (by decide) (by decide) g1 c1 (fun z => ?_) f1 hq
    have h0 := al_xm z
    have hm := exm_yes hG.1 h0 z
    exact ⟨Decidable.byContradiction (fun y => hno ⟨hm, by omega⟩), hW h0⟩
  apply k4_readBlock_r ho (by omega)
  have ref := cref_r (L := L) (N := N) (k := 2) ho (Q := Q) (M := M) (K := K) (by decide) hG hC
  rw [hs.2.2.1, hs.2.2.2.1]
  by_cases t5 : Q.1.1.2.2.1 = 5
  · rw [if_pos t5]
    by_cases v : Q.1.1.2.2.2.1 = 123
    · rw [if_pos v]
      by_cases hd : dep < 4
      · rw [if_pos hd]; exact main (fun y => by omega)
      · rw [if_neg hd]
        refine ref (fun M1 f1 c1 => hq M1 f1 ?_)
        unfold rbl
        rw [if_pos ⟨⟨t5, v⟩, by omega⟩]; exact c1
    · rw [if_neg v]; exact main (fun y => v y.1.2)
  · rw [if_neg t5]; exact main (fun y => t5 y.1.1)
theorem cstm {L : Int → Int} {N : Int} {o f : Nat} (ho : o = 2 ∨ o = 36) (hB : PBk L N o f) : PSt L N o (f + 1) := by
  intro par br dep Q M K h d0 d4 hf hh hG hC hW hq
  have hs := hC.1.2.1
  have n6 := hC.1.1.2.1.2
  have hp := hG.1.1
  have hrst : rst (ub L) N (f + 1) par br dep Q = (if knd (ub L) Q.1.1 = -1 then rfq 1 Q else if 20 ≤ Q.2.length then rfq 2 Q
    else if knd (ub L) Q.1.1 = 0 ∨ knd (ub L) Q.1.1 = 3 then xmq (ub L) N 59 (exq (ub L) N par br Q)
    else if knd (ub L) Q.1.1 = 1 ∧ wdb (ub L) (rbl (rst (ub L) N f (Q.1.2.length : Int) 0 (dep + 1)) (ub L) N dep (exq (ub L) N par br Q)).1.1 (pm_txt 6) = true then rbl (rst (ub L) N f (Q.1.2.length : Int) 1 (dep + 1)) (ub L) N dep (avq (ub L) N (rbl (rst (ub L) N f (Q.1.2.length : Int) 0 (dep + 1)) (ub L) N dep (exq (ub L) N par br Q)))
    else rbl (rst (ub L) N f (Q.1.2.length : Int) 0 (dep + 1)) (ub L) N dep (exq (ub L) N par br Q)) := by
    conv => lhs; unfold rst
  rw [hrst] at hq
  clear hrst
  apply k4_readStatement_r ho (by omega)
  refine skind_r hC.1.1 hs hG.1 ?_
  by_cases a : knd (ub L) Q.1.1 = -1
  · rw [if_pos a] at hq ⊢
    exact cref_r ho (k := 1) (by decide) hG hC hq
  rw [if_neg a] at hq ⊢
  have ty := knd_ty a
  have h0 : Q.1.1.2.2.2.2 = 0 := Decidable.byContradiction (fun z => by have := hG.1.2.1 z; omega)
  obtain ⟨w, o1, p1⟩ := hW h0
  refine ⟨hC.1.2.2.1, ?_⟩
  rw [(hC.2 h0).1]
  by_cases b : 20 ≤ Q.2.length
  · rw [if_pos b] at hq
    rw [if_neg (by omega)]
    exact cref_r ho (k := 2) (by decide) hG hC hq
  rw [if_neg b] at hq
  rw [if_pos (by omega)]
  refine variable_r hC.1.1 hs hG.1 ?_
  have hlen : Q.1.2.length < 10000 := by have := hG.2; rw [if_pos h0] at this; omega
  have gh := hG.hd (u := ub L) h0 a
  have gx : GP N (exq (ub L) N par br Q).1 := gh.rx
  have hkr := (knd_rng (ub L) Q.1.1).resolve_left a
  refine addSt_r (e := ((rx (ub L) N 36 0 0 (hdp (ub L) N Q.1)).2.length : Int) - 1) ho hlen hC.1 (hC.2 h0) (by omega) (fun t ht => ⟨(w.2.2.2.1 t ht).1.1, by have := (w.2.2.2.1 t ht).1; omega⟩) hkr (fun z => (vr_rng (ub L) Q.1.1).resolve_left (knd_v.mp z)) (fun M1 f1 c1 r1 => ?_)
  refine advance_r c1.1 c1.2.1 ⟨by simp only []; omega, by simp only []; omega⟩ (fun M2 f2 h2 => ?_)
  have c2 := c1.sc ho f2 h2
  have r2 := r1.fr ho (Nat.le_refl _) (f2.mono (fun a i y => p7_E y))
  have f02 : Fr (pS o) M M2 := f1.trans (f2.mono (fun a i y => pE_S (p7_E y)))
  have ex : ∀ (M3 : pm_M) (X : pm_M → Prop), Fr (pS o) M M3 → CSt L N o (hdp (ub L) N Q.1) M3 → CR o (exq (ub L) N par br Q).2 (Q.1.2.length + 1) M3 → (∀ M4, Fr (pS o) M M4 → CQ L N o (exq (ub L) N par br Q) M4 → X M4) → k4_readSides 100 o 0 0 M3 X := by
    intro M3 X f3 c3 r3 hX
    refine (crx ho 36).1 0 0 (hdp (ub L) N Q.1) M3 X 100 (by decide) (by decide) (by decide) (by decide) (by decide) (by decide) gh.1 gh.2 c3 (fun M4 f4 c4 => ?_)
    have gd := rx_Gd (u := ub L) 36 0 0 (hdp (ub L) N Q.1) gh.1 gh.2
    have hle : Q.1.2.length + 1 ≤ (exq (ub L) N par br Q).1.2.length := by
      have h5 := gd.2.1
      have h6 : (hdp (ub L) N Q.1).2.length = Q.1.2.length + 1 := by unfold hdp; rw [List.length_append]; rfl
      rw [h6] at h5; exact h5
    exact hX M4 (f3.trans (f4.mono (fun a i y => pE_S y))) ⟨c4, fun _ => r3.fr ho hle f4⟩
  by_cases k0 : knd (ub L) Q.1.1 = 0
  · rw [if_pos k0]
    rw [if_pos (Or.inl k0)] at hq
    have sk2 : SK N (adv (ub L) N Q.1.1) := hG.1.advk
    refine expectMark_r c2.1 c2.2.1 sk2 (fun M3 f3 h3 => ?_)
    refine ex M3 _ (f02.trans (f3.mono (fun a i y => pE_S (p7_E y)))) ?_ (r2.fr ho (Nat.le_refl _) (f3.mono (fun a i y => p7_E y))) (fun M4 f4 c4 => ?_)
    · unfold hdp; rw [if_pos k0]; exact c2.sc ho f3 h3
    · exact cmark_r ho gx c4 (fun M5 f5 c5 => hq M5 (f4.trans f5) c5)
  rw [if_neg k0]
  refine ex M2 _ f02 (by unfold hdp; rw [if_neg k0]; exact c2) r2 (fun M4 f4 c4 => ?_)
  by_cases k3 : knd (ub L) Q.1.1 = 3
  · rw [if_pos k3]
    rw [if_pos (Or.inr k3)] at hq
    exact cmark_r ho gx c4 (fun M5 f5 c5 => hq M5 (f4.trans f5) c5)
  rw [if_neg k3]
  rw [if_neg (fun z => z.elim k0 k3)] at hq
  rw [hC.1.2.2.2.1]
  have wx : ∀ b' : Int, (b' = 0 ∨ (b' = 1 ∧ knd (ub L) Q.1.1 = 1)) → (exq (ub L) N par br Q).1.1.2.2.2.2 = 0 → WLs (exq (ub L) N par br Q).1.2 (exq (ub L) N par br Q).2 ∧ Opn (exq (ub L) N par br Q).2 (Q.1.2.length : Int) ∧ PrO (exq (ub L) N par br Q).1.2 (exq (ub L) N par br Q).2 (Q.1.2.length : Int) b' := by
    intro b' hb' z
    obtain ⟨E, g, -, e2, e3, r, o2⟩ := exq_ok hG h0 a (by omega) w o1 p1 z
    exact ⟨r.2.1, o2, exq_pr e2 e3 hb'⟩
  refine hB (Q.1.2.length : Int) 0 dep (exq (ub L) N par br Q) M4 _ (h - 1) d0 d4 (by omega) (by omega) gx c4 (wx 0 (Or.inl rfl)) (fun M5 f5 c5 => ?_)
  have g5 : GP N (rbl (rst (ub L) N f (Q.1.2.length : Int) 0 (dep + 1)) (ub L) N dep (exq (ub L) N par br Q)).1 := rbl_GP (fun Q hQ => rst_GP f _ _ _ Q hQ) gx
  have w5 : knd (ub L) Q.1.1 = 1 → (rbl (rst (ub L) N f (Q.1.2.length : Int) 0 (dep + 1)) (ub L) N dep (exq (ub L) N par br Q)).1.1.2.2.2.2 = 0 → WLs (rbl (rst (ub L) N f (Q.1.2.length : Int) 0 (dep + 1)) (ub L) N dep (exq (ub L) N par br Q)).1.2 (rbl (rst (ub L) N f (Q.1.2.length : Int) 0 (dep + 1)) (ub L) N dep (exq (ub L) N par br Q)).2 ∧ Opn (rbl (rst (ub L) N f (Q.1.2.length : Int) 0 (dep + 1)) (ub L) N dep (exq (ub L) N par br Q)).2 (Q.1.2.length : Int) ∧ PrO (rbl (rst (ub L) N f (Q.1.2.length : Int) 0 (dep + 1)) (ub L) N dep (exq (ub L) N par br Q)).1.2 (rbl (rst (ub L) N f (Q.1.2.length : Int) 0 (dep + 1)) (ub L) N dep (exq (ub L) N par br Q)).2 (Q.1.2.length : Int) 1 := by
    intro k1 z
    obtain ⟨w6, o6, p6⟩ := wx 0 (Or.inl rfl) (al_rb z)
    obtain ⟨w7, o7, p7'⟩ := wx 1 (Or.inr ⟨rfl, k1⟩) (al_rb z)
    obtain ⟨-, -, r⟩ := rbl_ok (fun Q hQ => rst_GP f _ _ _ Q hQ) (fun hd Q hQ hz hw ho hp ha => (rst_keep (by omega) (by omega) (by omega) hQ (fun _ => ⟨hw, ho, hp⟩) ha).2) gx w6 o6 p6 z
    exact ⟨r.2.1, r.2.2 _ (Int.le_refl _) o6, r.pr w7 p7'⟩
  generalize rbl (rst (ub L) N f (Q.1.2.length : Int) 0 (dep + 1)) (ub L) N dep (exq (ub L) N par br Q) = Q2 at *
  by_cases k1 : knd (ub L) Q.1.1 = 1
  · rw [if_pos k1]
    refine cword_r (tx := 6) (by decide) c5.1.1 c5.1.2.1 g5.1 ?_
    show (if (if wdb (ub L) Q2.1.1 (pm_txt 6) = true then (1 : Int) else 0) = 0 then _ else _)
    by_cases c : wdb (ub L) Q2.1.1 (pm_txt 6) = true
    · rw [if_pos c, if_neg (by decide)]
      rw [if_pos ⟨k1, c⟩] at hq
      refine cadv_r ho g5 c5 (fun M6 f6 c6 => ?_)
      have g6 : GP N (avq (ub L) N Q2).1 := g5.av
      exact hB (Q.1.2.length : Int) 1 dep (avq (ub L) N Q2) M6 _ (h - 1) d0 d4 (by omega) (by omega) g6 c6 (fun z => w5 k1 (al_av z)) (fun M7 f7 c7 => hq M7 (((f4.trans f5).trans f6).trans f7) c7)
    · rw [if_neg c, if_pos rfl]
      rw [if_neg (fun z => c z.2)] at hq
      exact hq M5 (f4.trans f5) c5
  · rw [if_neg k1]
    rw [if_neg (fun z => k1 z.1)] at hq
    exact hq M5 (f4.trans f5) c5
theorem cstmAll {L : Int → Int} {N : Int} {o : Nat} (ho : o = 2 ∨ o = 36) : ∀ f : Nat, PSt L N o f ∧ PBk L N o f := by
  intro f
  induction f with
  | zero =>
    have hS : PSt L N o 0 := fun par br dep Q M K h a b c => by omega
    exact ⟨hS, cblk ho hS⟩
  | succ f ih =>
    have hS := cstm ho ih.2
    exact ⟨hS, cblk ho hS⟩

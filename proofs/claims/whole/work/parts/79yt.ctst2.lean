/-! tests: the first reader, lines and all of them -/
theorem cline_r {L : Int → Int} {N : Int} {o k : Nat} (ho : o = 18 ∨ o = 52) {s : Sc} {M : pm_M} {K : pm_M → Prop} (hC : CTb L N o s M) (hS : SK N s) (hk : s.2.2.2.2 = 0 → gI M o 1 = (k : Int))
    (hq : ∀ M', Fr (pT o) M M' → CTb L N o (tlS (ub L) N k s) M' → ((tlS (ub L) N k s).2.2.2.2 = 0 → ∀ l : List TRow, l.length = k → hcl l ≤ 16 → -1 ≤ hcl l → CSu o l M → CSu o (l ++ [tlR (ub L) N s]) M') → K M') : k9_readLine o M K := by
  have hT := hC.1
  have hs := hC.2.1
  have n6 := hT.2.1.2
  apply k9_readLine_r ho
  refine cword_r (tx := 7) (by decide) hT hs hS ?_
  have tail : ¬ (wdb (ub L) s (pm_txt 7) = true ∧ 16 ≤ k) → k7_expectWord 7 M (fun M4 => k9_readNumber M4 (fun r7 M6 => k9_readNumber M6 (fun r9 M8 => k9_readNumber M8 (fun r11 M10 => k7_expectWord 8 M10 (fun M12 => k9_readNumber M12 (fun r15 M14 => k7_isWord 9 M14 (fun r17 M16 => (if r17 = 0 then (gI M16 72 1 = (o : Int) ∧ k8_add o r7 r9 r11 r15 r17 M16 (fun M20 => K M20)) else k7_advance M16 (fun M22 => (gI M22 72 1 = (o : Int) ∧ k8_add o r7 r9 r11 r15 r17 M22 (fun M25 => K M25))))))))))) := by
    intro hno
    have e : tlS (ub L) N k s = t7 (ub L) N s := by unfold tlS; rw [if_neg hno]
    have hal := fun h => tlS_al (u := ub L) (k := k) hS h
    rw [e] at hq hal
    have s1 : SK N (t1 (ub L) N s) := hS.txW
    have s2 : SK N (t2 (ub L) N s) := s1.tnS
    have s3 : SK N (t3 (ub L) N s) := s2.tnS
    have s4 : SK N (t4 (ub L) N s) := s3.tnS
    have s5 : SK N (t5 (ub L) N s) := s4.txW
    have s6 : SK N (t6 (ub L) N s) := s5.tnS
    refine cxw_r (tx := 7) (by decide) hT hs hS (fun M1 f1 h1 => ?_)
    have c1 := hC.sc ho f1 h1
    refine cnum_r (s := t1 (ub L) N s) c1.1 h1 s1 (fun M2 f2 h2 => ?_)
    have c2 := c1.sc ho f2 h2
    refine cnum_r (s := t2 (ub L) N s) c2.1 h2 s2 (fun M3 f3 h3 => ?_)
    have c3 := c2.sc ho f3 h3
    refine cnum_r (s := t3 (ub L) N s) c3.1 h3 s3 (fun M4 f4 h4 => ?_)
    have c4 := c3.sc ho f4 h4
    refine cxw_r (tx := 8) (s := t4 (ub L) N s) (by decide) c4.1 h4 s4 (fun M5 f5 h5 => ?_)
    have c5 := c4.sc ho f5 h5
    refine cnum_r (s := t5 (ub L) N s) c5.1 h5 s5 (fun M6 f6 h6 => ?_)
    have c6 := c5.sc ho f6 h6
    refine cword_r (tx := 9) (s := t6 (ub L) N s) (by decide) c6.1 h6 s6 ?_
    have f06 : Fr p7 M M6 := ((((f1.trans f2).trans f3).trans f4).trans f5).trans f6
    have fin : ∀ (M7 : pm_M), Fr p7 M M7 → CTb L N o (t7 (ub L) N s) M7 → (gI M7 72 1 = (o : Int) ∧ k8_add o (tnV (ub L) N (t1 (ub L) N s)) (tnV (ub L) N (t2 (ub L) N s)) (tnV (ub L) N (t3 (ub L) N s)) (tnV (ub L) N (t5 (ub L) N s)) (if wdb (ub L) (t6 (ub L) N s) (pm_txt 9) = true then 1 else 0) M7 (fun M20 => K M20)) := by
      intro M7 f7 c7
      refine ⟨c7.2.2.1, cadd_r ho (t := tlR (ub L) N s) c7.2.2.2 ?_ (fun M8 f8 b8 g8 => ?_)⟩
      · unfold tlR; simp only []; split
        · exact Or.inr rfl
        · exact Or.inl rfl
      have h70 : ∀ i, gI M8 70 i = gI M7 70 i := fun i => f8.g (by simp; omega)
      refine hq M8 ((f7.mono (fun a i y => p7_T y)).trans (f8.mono (fun a i y => by simp only [pT, Bool.or_eq_true] at y ⊢; rcases y with y | y; exact Or.inl (Or.inr y); exact Or.inr y))) ⟨?_, ?_, ?_, b8⟩ (fun al l hl hh hh' cs => ?_)
      · exact c7.1.fr f8 (by simp; omega) (fun i => by simp; omega)
      · unfold Hs; rw [h70, h70, h70, h70, h70]; exact c7.2.1
      · rw [f8.g (by simp; omega)]; exact c7.2.2.1
      · have hk16 := (hal al).2.2.1
        exact g8 l (by omega) hh hh' (cs.fr ho (by omega) f7)
    by_cases w9 : wdb (ub L) (t6 (ub L) N s) (pm_txt 9) = true
    · have e7 : t7 (ub L) N s = adv (ub L) N (t6 (ub L) N s) := by unfold t7; rw [if_pos w9]
      have e9 : (if wdb (ub L) (t6 (ub L) N s) (pm_txt (9 : Int).toNat) = true then (1 : Int) else 0) = 1 := if_pos w9
      rw [e9, if_neg (by decide)]
      have hp6 := s6.1
      refine advance_r (s := t6 (ub L) N s) c6.1 h6 ⟨by omega, by omega⟩ (fun M7 f7 h7 => ?_)
      have g := fin M7 (f06.trans f7) (by rw [e7]; exact c6.sc ho f7 h7)
      rw [if_pos w9] at g
      exact g
    · have e7 : t7 (ub L) N s = t6 (ub L) N s := by unfold t7; rw [if_neg w9]
      have e9 : (if wdb (ub L) (t6 (ub L) N s) (pm_txt (9 : Int).toNat) = true then (1 : Int) else 0) = 0 := if_neg w9
      rw [e9, if_pos rfl]
      have g := fin M6 f06 (by rw [e7]; exact c6)
      rw [if_neg w9] at g
      exact g
  by_cases w7 : wdb (ub L) s (pm_txt 7) = true
  · have e7 : (if wdb (ub L) s (pm_txt (7 : Int).toNat) = true then (1 : Int) else 0) = 1 := if_pos w7
    rw [e7, if_neg (by decide)]
    refine ⟨hC.2.2.1, ?_⟩
    have ty := (wdb_iff.mp w7).1
    have h0 : s.2.2.2.2 = 0 := Decidable.byContradiction (fun z => by have := hS.2.1 z; omega)
    have ek := hk h0
    by_cases c : gI M o 1 < 16
    · rw [if_pos c]; exact tail (fun z => by omega)
    · rw [if_neg c]
      have e : tlS (ub L) N k s = refu s 2 := by unfold tlS; rw [if_pos ⟨w7, by omega⟩]
      rw [e] at hq
      rw [hs.2.2.2.2, hs.2.1, if_pos h0, refuse_w n6 hS 2 (by decide)]
      have f1 : Fr p7 M (upI (upI M 70 6 (8 * s.2.1 + 2)) 70 4 1) := (Fr.rf.up _ rfl).up _ rfl
      exact hq _ (f1.mono (fun a i y => p7_T y)) (hC.sc ho f1 (hs.up6 h0 2)) (fun z => absurd z (refu_no hS h0 (by decide)))
  · have e7 : (if wdb (ub L) s (pm_txt (7 : Int).toNat) = true then (1 : Int) else 0) = 0 := if_neg w7
    rw [e7, if_pos rfl]
    exact tail (fun z => w7 z.1)
/-- the lines read so far -/
def TL (l : List TRow) : Prop := (1 ≤ l.length ∧ l.length ≤ 16) ∧ (∀ t ∈ l, TR t) ∧ 0 ≤ hcl l ∧ hcl l ≤ (l.length : Int)
theorem TL.add {l : List TRow} {t : TRow} (h : (∀ t ∈ l, TR t) ∧ 0 ≤ hcl l ∧ hcl l ≤ (l.length : Int)) (h16 : l.length < 16) (ht : TR t) : TL (l ++ [t]) := by
  have ll : (l ++ [t]).length = l.length + 1 := by rw [List.length_append]; rfl
  have h5 := ht.2.2.2.2
  refine ⟨by rw [ll]; omega, fun s hs => ?_, ?_, ?_⟩
  · rcases List.mem_append.mp hs with q | q
    · exact h.1 s q
    · rw [List.mem_singleton] at q; rw [q]; exact ht
  · rw [hcl_app]; omega
  · rw [hcl_app, ll]; omega
def pTr (o a i : Nat) : Bool := (a == 70 && 1 ≤ i) || (a == 72 && i == 1) || (a == o && (i == 1 || i == 2)) || (o + 2 ≤ a && a ≤ o + 17)
theorem pT_r {o a i : Nat} (h : pT o a i = true) : pTr o a i = true := by
  simp only [pT, p7, pTr, Bool.or_eq_true, Bool.and_eq_true, beq_iff_eq, decide_eq_true_eq] at h ⊢
  omega
theorem ctests_r {o : Nat} (ho : o = 18 ∨ o = 52) {L : Int → Int} {N : Int} {M : pm_M} {K : Int → pm_M → Prop} (hN : 0 ≤ N ∧ N ≤ 600) (hL : ∀ i, 0 ≤ i → i < 600 → gI M 1 i = L i ∧ -128 ≤ L i ∧ L i ≤ 127)
    (h1 : ¬ (tsS (ub L) N).2.2.2.2 = 0 → ∀ M', Fr (pTr o) M M' → K (tsS (ub L) N).2.2.2.2 M')
    (h2 : (tsS (ub L) N).2.2.2.2 = 0 → ∀ M', Fr (pTr o) M M' → CSu o (tsL (ub L) N).2 M' → TL (tsL (ub L) N).2 → K 0 M') : k9_read o N M K := by
  have w600 : (if 0 < (if 600 < N then 600 else N) then (if 600 < N then 600 else N) else 0) = N := by
    have e : ¬ 600 < N := by omega
    rw [if_neg e]; split <;> omega
  apply k9_read_r ho
  apply k7_start_r
  rw [w600]
  obtain ⟨A, hA⟩ : ∃ A, A = upI (upI (upI (upI (upI (upI M 72 1 (o : Int)) o 1 0) o 2 0) 70 1 N) 70 2 0) 70 6 0 := ⟨_, rfl⟩
  rw [← hA]
  have fA : Fr (pTr o) M A := by
    rw [hA]
    exact (((((Fr.rf.up _ (by simp [pTr])).up _ (by simp [pTr])).up _ (by simp [pTr])).up _ (by simp [pTr])).up _ (by simp [pTr])).up _ (by simp [pTr])
  have a1 : gI A 70 1 = N := by rw [hA, gI_nf _ _ (by decide), gI_nf _ _ (by decide), gI_eq]
  have a2 : gI A 70 2 = 0 := by rw [hA, gI_nf _ _ (by decide), gI_eq]
  have a6 : gI A 70 6 = 0 := by rw [hA, gI_eq]
  have a72 : gI A 72 1 = (o : Int) := by rw [hA, gI_ne _ _ _ _ (by omega), gI_ne _ _ _ _ (by omega), gI_ne _ _ _ _ (by omega), gI_ne _ _ _ _ (by omega), gI_ne _ _ _ _ (by omega), gI_eq]
  have ao1 : gI A o 1 = 0 := by rw [hA, gI_ne _ _ _ _ (by omega), gI_ne _ _ _ _ (by omega), gI_ne _ _ _ _ (by omega), gI_nf _ _ (by decide), gI_eq]
  have ao2 : gI A o 2 = 0 := by rw [hA, gI_ne _ _ _ _ (by omega), gI_ne _ _ _ _ (by omega), gI_ne _ _ _ _ (by omega), gI_eq]
  clear hA
  have tA : TpC L N A := ⟨a1, hN, fun i i0 i1 => by rw [fA.g (by simp [pTr] <;> omega)]; exact hL i i0 i1⟩
  have hsA : Hs (0, gI A 70 3, gI A 70 4, gI A 70 5, 0) A := ⟨a2, rfl, rfl, rfl, a6⟩
  refine advance_r tA hsA ⟨show (0 : Int) ≤ 0 from Int.le_refl _, hN.1⟩ (fun M1 f1 hs1 => ?_)
  have eadv : adv (ub L) N (0, gI A 70 3, gI A 70 4, gI A 70 5, 0) = adv (ub L) N s0 := rfl
  rw [eadv] at hs1
  have f01 : Fr (pTr o) M M1 := fA.trans (f1.mono (fun a i y => pT_r (p7_T y)))
  have sk0 : SK N (adv (ub L) N s0) := (SK.s0 hN.1).advk
  have e1 : gI M1 o 1 = 0 := by rw [f1.g (by simp [p7] <;> omega)]; exact ao1
  have c1 : CTb L N o (adv (ub L) N s0) M1 := ⟨tA.fr f1 rfl (fun _ => rfl), hs1, by rw [f1.g rfl]; exact a72, by rw [e1]; decide, by rw [e1]; decide⟩
  have su0 : CSu o [] M1 := ⟨e1, by rw [f1.g (by simp [p7] <;> omega)]; exact ao2, fun i hi => absurd hi (Nat.not_lt_zero _)⟩
  refine cline_r (k := 0) ho c1 sk0 (fun _ => e1) (fun M2 f2 c2 g2 => ?_)
  -- the rest of the lines
  have rest : ∀ (n : Nat) (i : Int) (S : Sc × List TRow) (X : pm_M), i + n = 600 → 0 ≤ i → SK N S.1 → CTb L N o S.1 X → (S.1.2.2.2.2 = 0 → CSu o S.2 X ∧ TL S.2) → tlF (ub L) N n S = tsL (ub L) N → Fr (pTr o) M X → k9_read_26 o i X K := by
    intro n
    have fin : ∀ (S : Sc × List TRow) (X : pm_M), S = tsL (ub L) N → SK N S.1 → CTb L N o S.1 X → (S.1.2.2.2.2 = 0 → CSu o S.2 X ∧ TL S.2) → Fr (pTr o) M X → (if gI X 70 4 = 0 then K (gI X 70 6) X else (if gI X 70 6 = 0 then K (w32 ((w32 (8 * (gI X 70 3))) + 1)) (upI (upI X 70 6 (w32 ((w32 (8 * (gI X 70 3))) + 1))) 70 4 1) else K (gI X 70 6) X)) := by
      intro S X e sk c su f
      have hs := c.2.1
      rw [hs.2.2.1, hs.2.2.2.2, hs.2.1, refuse_w hN.2 sk 1 (by decide)]
      unfold tsS at h1 h2
      rw [← e] at h1 h2
      by_cases t : S.1.2.2.1 = 0
      · rw [if_pos t] at h1 h2 ⊢
        have z : S.1.2.2.2.2 = 0 := Decidable.byContradiction (fun y => by have := sk.2.1 y; omega)
        rw [z]
        exact h2 z X f (su z).1 (su z).2
      · rw [if_neg t] at h1 h2 ⊢
        by_cases z : S.1.2.2.2.2 = 0
        · rw [if_pos z]
          have rno := refu_no sk z (k := 1) (by decide)
          have er : (refu S.1 1).2.2.2.2 = 8 * S.1.2.1 + 1 := by unfold refu; rw [if_pos z]
          rw [← er]
          exact h1 rno _ ((f.up _ (by simp [pTr])).up _ (by simp [pTr]))
        · rw [if_neg z]
          rw [refu_dead z] at h1
          exact h1 z X f
    induction n with
    | zero =>
      intro i S X hi i0 sk c su e f
      apply k9_read_26_r ho
      rw [if_neg (by omega)]
      exact fin S X e sk c su f
    | succ n ih =>
      intro i S X hi i0 sk c su e f
      have hs := c.2.1
      have hp := sk.1
      apply k9_read_26_r ho
      rw [if_pos (by omega), w32_id (show -2147483648 ≤ i + 1 ∧ i + 1 < 2147483648 by omega)]
      have stop : ¬ (S.1.2.2.1 = 5 ∧ S.1.2.2.2.1 = 59) → (if gI X 70 4 = 0 then K (gI X 70 6) X else (if gI X 70 6 = 0 then K (w32 ((w32 (8 * (gI X 70 3))) + 1)) (upI (upI X 70 6 (w32 ((w32 (8 * (gI X 70 3))) + 1))) 70 4 1) else K (gI X 70 6) X)) := by
        intro hno
        rw [tlF_stop hno] at e
        exact fin S X e sk c su f
      by_cases t5' : gI X 70 4 = 5
      case neg => rw [if_neg t5']; exact stop (fun z => t5' (by rw [hs.2.2.1]; exact z.1))
      rw [if_pos t5']
      by_cases v : gI X 70 5 = 59
      case neg => rw [if_neg v]; exact stop (fun z => v (by rw [hs.2.2.2.1]; exact z.2))
      rw [if_pos v]
      have hm : S.1.2.2.1 = 5 ∧ S.1.2.2.2.1 = 59 := ⟨by rw [← hs.2.2.1]; exact t5', by rw [← hs.2.2.2.1]; exact v⟩
      rw [tlF_next hm] at e
      have z : S.1.2.2.2.2 = 0 := Decidable.byContradiction (fun y => by have := sk.2.1 y; omega)
      obtain ⟨cs, tl⟩ := su z
      refine advance_r c.1 hs ⟨by omega, by omega⟩ (fun Y fY hY => ?_)
      have cY := c.sc ho fY hY
      have skA : SK N (adv (ub L) N S.1) := sk.advk
      have csY := cs.fr ho tl.1.2 fY
      refine cline_r (k := S.2.length) ho cY skA (fun _ => csY.1) (fun Z fZ cZ gZ => ?_)
      refine ih (i + 1) _ Z (by omega) (by omega) skA.tlS cZ (fun al => ?_) e ((f.trans (fY.mono (fun a i y => pT_r (p7_T y)))).trans (fZ.mono (fun a i y => pT_r y)))
      have h16 := (tlS_al skA al).2.2.1
      exact ⟨gZ al S.2 rfl (by have := tl.2.2; omega) (by have := tl.2.2; omega) csY, TL.add ⟨tl.2.1, tl.2.2⟩ h16 (tlR_ok skA al)⟩
  refine rest 600 0 _ M2 (by decide) (by decide) sk0.tlS c2 (fun al => ?_) rfl (f01.trans (f2.mono (fun a i y => pT_r y)))
  exact ⟨g2 al [] rfl (by decide) (by decide) su0, TL.add (l := []) ⟨fun t ht => absurd ht (by simp), by decide, by decide⟩ (by decide) (tlR_ok sk0 al)⟩

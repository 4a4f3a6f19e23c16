/-! tests: the other reader, all of them -/
theorem tlS_dead {u : Int → Int} {N : Int} {k : Nat} {s : Sc} (hS : SK N s) (h : ¬ s.2.2.2.2 = 0) : tlS u N k s = s := by
  have h1 := hS.2.1 h
  have e : t1 u N s = s := dd_W h h1
  unfold tlS
  rw [if_neg (fun z => by have := (wdb_iff.mp z.1).1; omega), d71 hS (by rw [e]; exact h), e]
theorem pnd_line {pl k : Int} {M : pm_M} {K : Int → pm_M → Prop} {c : Nat} (hc : 1 ≤ c) (hP : Pnd M pl) (hK : K 0 (upI M 142 8 (8 * pl + 1))) : k12_testLine c k M K := by
  apply k12_testLine_r
  refine ⟨1, c - 1, by omega, rwordN_r (Nat.le_refl _) hP.1 (by decide) ?_⟩
  rw [if_pos rfl, hP.2.1, if_pos rfl, hP.2.2.1, bad_w hP.2.2.2 1 (by decide)]
  exact hK
def qTf (a i : Nat) : Bool := (a == 142 && (i == 0 || (2 ≤ i && i ≤ 8))) || a == 155
def qTr (a i : Nat) : Bool := qTf a i || (a == 142 && i == 24) || a == 154
theorem qU_f {a i : Nat} (h : qU a i = true) : qTf a i = true := by
  simp only [qU, qTf, Bool.or_eq_true, Bool.and_eq_true, beq_iff_eq, decide_eq_true_eq] at h ⊢
  omega
theorem qTf_r {a i : Nat} (h : qTf a i = true) : qTr a i = true := by simp only [qTr, h, Bool.true_or]
theorem tcopy_r {c n : Nat} {M : pm_M} {K : Int → pm_M → Prop} (hn : n ≤ 16) (h24 : gI M 142 24 = (n : Int)) (hq : ∀ M', Fr (fun a _ => a == 154) M M' → (∀ j, 0 ≤ j → j < 5 * (n : Int) → gI M' 154 j = gI M 155 j) → K (n : Int) M') : k12_tests_119 c 0 M K := by
  have w5 : w32 (5 * (n : Int)) = 5 * (n : Int) := w32_id (by omega)
  have loop : ∀ (d : Nat) (k : Int) (M1 : pm_M), k + d = 5 * (n : Int) → 0 ≤ k → Fr (fun a _ => a == 154) M M1 → (∀ j, 0 ≤ j → j < k → gI M1 154 j = gI M 155 j) → k12_tests_119 c k M1 K := by
    intro d
    induction d with
    | zero =>
      intro k M1 hk k0 f1 h1
      apply k12_tests_119_r
      rw [f1.g rfl, h24, w5, if_neg (by omega)]
      exact hq M1 f1 (fun j j0 j1 => h1 j j0 (by omega))
    | succ d ih =>
      intro k M1 hk k0 f1 h1
      apply k12_tests_119_r
      have w1 : w32 (k + 1) = k + 1 := w32_id (by omega)
      have e155 : gI M1 155 k = gI M 155 k := f1.g rfl
      have e24 : gI M1 142 24 = (n : Int) := by rw [f1.g rfl]; exact h24
      rw [e24, w5, if_pos (by omega), w1, e155]
      refine ⟨⟨k0, by omega⟩, ih (k + 1) _ (by omega) (by omega) (f1.up _ rfl) (fun j j0 j1 => ?_)⟩
      rw [gI_up _ _ k0 j0]
      by_cases e : j = k
      · rw [if_pos e, e]
      · rw [if_neg e]; exact h1 j j0 (by omega)
  exact loop (5 * n) 0 M (by omega) (by decide) Fr.rf (fun j j0 j1 => by omega)
theorem TRw.fr {M M' : pm_M} {k lo hi : Int} {t : TRow} (h : TRw M k t) (hk : 0 ≤ k) (hlo : 5 * k + 5 ≤ lo) (f : Fr (qX lo hi) M M') : TRw M' k t := by
  refine ⟨?_, ?_, ?_, ?_, ?_⟩
  · rw [f.g (by simp [qX]; omega)]; exact h.1
  · rw [f.g (by simp [qX]; omega)]; exact h.2.1
  · rw [f.g (by simp [qX]; omega)]; exact h.2.2.1
  · rw [f.g (by simp [qX]; omega)]; exact h.2.2.2.1
  · rw [f.g (by simp [qX]; omega)]; exact h.2.2.2.2
def RSu (l : List TRow) (M : pm_M) : Prop := ∀ i : Nat, i < l.length → TRw M (i : Int) (l.getD i zT)
theorem RSu.add {l : List TRow} {t : TRow} {M M' : pm_M} {hi : Int} (h : RSu l M) (f : Fr (qX (5 * (l.length : Int)) hi) M M') (ht : TRw M' (l.length : Int) t) : RSu (l ++ [t]) M' := by
  intro i hi'
  rw [List.length_append] at hi'
  simp only [List.length_singleton] at hi'
  by_cases e : i = l.length
  · rw [e, gdB (Nat.le_refl _), Nat.sub_self]; exact ht
  · rw [gdA (by omega)]
    exact (h i (by omega)).fr (by omega) (by omega) f
theorem rtests_r {c : Nat} (hc : 51 ≤ c) {L : Int → Int} {N tp : Int} {M : pm_M} {K : Int → pm_M → Prop} (htp : gI M 142 2 = tp) (ht6 : 0 ≤ tp ∧ tp ≤ 600) (hL : ∀ i, 0 ≤ i → i < 600 → gI M 143 i = L i ∧ -128 ≤ L i ∧ L i ≤ 127)
    (h0 : (N < 0 ∨ tp < N) → K (-1) (upI M 142 0 0))
    (h1 : 0 ≤ N → N ≤ tp → ¬ (tsS (ub L) N).2.2.2.2 = 0 → ∀ M', Fr qTf M M' → gI M' 142 2 = 0 → K (w32 ((-2) - (tsS (ub L) N).2.2.2.2)) M')
    (h2 : 0 ≤ N → N ≤ tp → (tsS (ub L) N).2.2.2.2 = 0 → ∀ M', Fr qTr M M' → gI M' 142 2 = 0 → gI M' 142 24 = ((tsL (ub L) N).2.length : Int) → (∀ i : Nat, i < (tsL (ub L) N).2.length → gI M' 154 (5 * (i : Int)) = ((tsL (ub L) N).2.getD i zT).1 ∧ gI M' 154 (5 * (i : Int) + 1) = ((tsL (ub L) N).2.getD i zT).2.1 ∧ gI M' 154 (5 * (i : Int) + 2) = ((tsL (ub L) N).2.getD i zT).2.2.1 ∧ gI M' 154 (5 * (i : Int) + 3) = ((tsL (ub L) N).2.getD i zT).2.2.2.1 ∧ gI M' 154 (5 * (i : Int) + 4) = ((tsL (ub L) N).2.getD i zT).2.2.2.2) → K ((tsL (ub L) N).2.length : Int) M') : k12_tests c N M K := by
  apply k12_tests_r
  by_cases n0 : N < 0
  · rw [if_pos n0]; exact h0 (Or.inl n0)
  rw [if_neg n0, htp]
  by_cases n1 : N ≤ tp
  case neg => rw [if_neg n1]; exact h0 (Or.inr (by omega))
  rw [if_pos n1]
  have N0 : 0 ≤ N := by omega
  have q1 := h1 N0 n1
  have q2 := h2 N0 n1
  clear h0 h1 h2
  obtain ⟨A, hA⟩ : ∃ A, A = upI (upI (upI (upI (upI M 142 0 0) 142 3 N) 142 2 0) 142 5 0) 142 8 0 := ⟨_, rfl⟩
  rw [← hA]
  have fA : Fr qTf M A := by rw [hA]; exact ((((Fr.rf.up _ rfl).up _ rfl).up _ rfl).up _ rfl).up _ rfl
  have a2 : gI A 142 2 = 0 := by rw [hA, gI_nf _ _ (by decide), gI_nf _ _ (by decide), gI_eq]
  have a3 : gI A 142 3 = N := by rw [hA, gI_nf _ _ (by decide), gI_nf _ _ (by decide), gI_nf _ _ (by decide), gI_eq]
  have a5 : gI A 142 5 = 0 := by rw [hA, gI_nf _ _ (by decide), gI_eq]
  have a8 : gI A 142 8 = 0 := by rw [hA, gI_eq]
  clear hA
  have tA : TpR L N A := ⟨a3, ⟨N0, by omega⟩, fun i i0 i1 => by rw [fA.g rfl]; exact hL i i0 i1⟩
  -- a fault: what it comes to
  have dead : ∀ (S : Sc × List TRow), tlF (ub L) N 0 S = tsL (ub L) N → ¬ S.1.2.2.2.2 = 0 → S.1.2.2.1 = 1 → ∀ X, Fr qTf M X → gI X 142 2 = 0 → K (w32 ((-2) - S.1.2.2.2.2)) X := by
    intro S e z t X fX x2
    have es : tsS (ub L) N = S.1 := by
      unfold tsS
      rw [← e]
      show (if S.1.2.2.1 = 0 then S.1 else refu S.1 1) = S.1
      rw [if_neg (by omega), refu_dead z]
    rw [es] at q1
    exact q1 z X fX x2
  have loop : ∀ (n : Nat) (S : Sc × List TRow) (X : pm_M) (c1 : Nat), LVt L N S.1 X → RSu S.2 X → (1 ≤ S.2.length ∧ S.2.length ≤ 16) → 17 ≤ S.2.length + n → 51 ≤ c1 + 3 * S.2.length → tlF (ub L) N n S = tsL (ub L) N → Fr qTf M X → gI X 142 2 = 0 → k12_tests_51 c1 ((S.2.length : Int) - 1) 1 X K := by
    intro n
    induction n with
    | zero => intro S X c1 _ _ hl h17; omega
    | succ n ih =>
      intro S X c1 lv rs hl h17 hc1 e fX x2
      have hr := lv.2.1
      have hS := lv.2.2.2.2.1
      have z0 := lv.2.2.2.1
      have ty := hS.2.2.2.2.2.1
      have hp := hS.1
      apply k12_tests_51_r
      have wl : w32 ((S.2.length : Int) - 1 + 1) = (S.2.length : Int) := by rw [w32_id (by omega)]; omega
      rw [if_neg (by decide), wl]
      have stop : ¬ (S.1.2.2.1 = 5 ∧ S.1.2.2.2.1 = 59) → (if gI X 142 6 = 0 then k12_tests_119 c1 0 (upI X 142 24 (S.2.length : Int)) K else (if gI X 142 8 = 0 then K (w32 ((-2) - (w32 ((w32 (8 * (gI X 142 4))) + 1)))) (upI X 142 8 (w32 ((w32 (8 * (gI X 142 4))) + 1))) else K (w32 ((-2) - (gI X 142 8))) (upI X 142 8 (gI X 142 8)))) := by
        intro hno
        rw [tlF_stop hno] at e
        unfold tsS at q1 q2
        rw [← e] at q1 q2
        by_cases t : S.1.2.2.1 = 0
        · rw [if_pos (by rw [hr.2.2.1]; exact (tk0 ty).mpr t)]
          rw [if_pos t] at q2
          refine tcopy_r hl.2 (gI_eq _ _ _ _) (fun Y fY hY => ?_)
          have k155 : ∀ j, gI (upI X 142 24 (S.2.length : Int)) 155 j = gI X 155 j := fun j => gI_ne _ _ _ _ (by decide)
          refine q2 z0 Y (((fX.mono (fun a i y => qTf_r y)).up _ rfl).trans (fY.mono (fun a i y => by simp only [beq_iff_eq] at y; simp [qTr, y]))) ?_ ?_ (fun i hi => ?_)
          · rw [fY.g rfl, gI_nf _ _ (by decide)]; exact x2
          · rw [fY.g rfl, gI_eq]
          · have r := rs i hi
            rw [hY _ (by omega) (by omega), hY _ (by omega) (by omega), hY _ (by omega) (by omega), hY _ (by omega) (by omega), hY _ (by omega) (by omega), k155, k155, k155, k155, k155]
            exact r
        · rw [if_neg (by rw [hr.2.2.1]; exact fun y => t ((tk0 ty).mp y))]
          rw [if_neg t] at q1
          have n6 := lv.1.2.1.2
          rw [lv.2.2.1, if_pos rfl, hr.2.1, bad_w ⟨by omega, by omega⟩ 1 (by decide)]
          have rno := refu_no hS z0 (k := 1) (by decide)
          have er : (refu S.1 1).2.2.2.2 = 8 * S.1.2.1 + 1 := by unfold refu; rw [if_pos z0]
          rw [← er]
          exact q1 rno _ (fX.up _ rfl) (by rw [gI_nf _ _ (by decide)]; exact x2)
      have go : (S.1.2.2.1 = 5 ∧ S.1.2.2.2.1 = 59) → k12_go X (fun M4 => (∃ c8 c9 : Nat, c8 + c9 ≤ c1 ∧ k12_testLine c8 (S.2.length : Int) M4 (fun r7 M6 => k12_tests_51 c9 (S.2.length : Int) r7 M6 K))) := by
        intro hm
        rw [tlF_next hm] at e
        refine lv.go (fun za Y fY lY => ?_) (fun za Y fY tY pY eY => ?_)
        · have fY' : Fr qTf M Y := fX.trans (fY.mono (fun a i y => qU_f (q7_U y)))
          have rsY : RSu S.2 Y := fun i hi => (rs i hi).fr (lo := 5 * (i : Int) + 5) (hi := 0) (by omega) (Int.le_refl _) (fY.mono (fun a j y => q7_V y))
          refine ⟨3, c1 - 3, by omega, rline_r (Nat.le_refl _) hl.2 lY (fun al Z fZ lZ tZ => ?_) (fun nal => ⟨fun Z fZ eZ => ?_, fun Z fZ tZ pZ eZ => ?_⟩)⟩
          · have h16 := (tlS_al lY.2.2.2.2.1 al).2.2.1
            have hlen : (S.2 ++ [tlR (ub L) N (adv (ub L) N S.1)]).length = S.2.length + 1 := by rw [List.length_append]; rfl
            have := ih (tlS (ub L) N S.2.length (adv (ub L) N S.1), S.2 ++ [tlR (ub L) N (adv (ub L) N S.1)]) Z (c1 - 3) lZ (rsY.add fZ tZ) (by simp only []; rw [hlen]; omega) (by simp only []; rw [hlen]; omega) (by simp only []; rw [hlen]; omega) e (fY'.trans (fZ.mono (fun a i y => qU_f (qX_U y)))) (by rw [fZ.g rfl, fY.g rfl]; exact x2)
            simp only [] at this
            rw [hlen, show ((S.2.length + 1 : Nat) : Int) - 1 = (S.2.length : Int) by omega] at this
            exact this
          · have sk' : SK N (tlS (ub L) N S.2.length (adv (ub L) N S.1)) := lY.2.2.2.2.1.tlS
            have t1' := sk'.2.1 nal
            rw [tlF_stop (fun y => by simp only [] at y; omega)] at e
            apply k12_tests_51_r
            rw [if_pos rfl, eZ]
            exact dead _ e nal t1' Z (fY'.trans (fZ.mono (fun a i y => qU_f y))) (by rw [fZ.g rfl, fY.g rfl]; exact x2)
          · have sk' : SK N (tlS (ub L) N S.2.length (adv (ub L) N S.1)) := lY.2.2.2.2.1.tlS
            have t1' := sk'.2.1 nal
            rw [tlF_stop (fun y => by simp only [] at y; omega)] at e
            apply k12_tests_51_r
            rw [if_neg (by decide), pZ.1, if_neg (by decide), if_neg (by decide), pZ.2.1, if_pos rfl, pZ.2.2.1, bad_w pZ.2.2.2 1 (by decide), ← eZ]
            exact dead _ e nal t1' _ ((fY'.trans (fZ.mono (fun a i y => qU_f y))).up _ rfl) (by rw [gI_nf _ _ (by decide), fZ.g rfl, fY.g rfl]; exact x2)
        · have fY' : Fr qTf M Y := fX.trans (fY.mono (fun a i y => qU_f (q7_U y)))
          have skA : SK N (adv (ub L) N S.1) := hS.advk
          have t1' := skA.2.1 za
          have ed := tlS_dead (u := ub L) (k := S.2.length) skA za
          rw [ed, tlF_stop (fun y => by simp only [] at y; omega)] at e
          refine ⟨3, c1 - 3, by omega, pnd_line (by decide) pY ?_⟩
          apply k12_tests_51_r
          rw [if_pos rfl, gI_eq, ← eY]
          exact dead _ e za t1' _ (fY'.up _ rfl) (by rw [gI_nf _ _ (by decide), fY.g rfl]; exact x2)
      by_cases a : gI X 142 6 = 3
      case neg =>
        rw [if_neg a]
        exact stop (fun y => a (by rw [hr.2.2.1]; exact (tk3 ty).2.mpr (Or.inr y.1)))
      rw [if_pos a]
      have h45 := (tk3 ty).2.mp (by rw [← hr.2.2.1]; exact a)
      by_cases b : gI X 142 7 = 59
      case neg =>
        rw [if_neg b]
        exact stop (fun y => b (by rw [hr.2.2.2.2.2 y.1]; exact y.2))
      rw [if_pos b]
      refine go ?_
      rcases h45 with t | t
      · exfalso
        rw [hr.2.2.2.2.1 t] at b
        exact (vcd45 (hS.2.2.2.2.1 t)).2.2.2.2.1 b
      · exact ⟨t, by rw [← hr.2.2.2.2.2 t]; exact b⟩
  have sk0 := SK.s0 N0
  refine goT (s := s0) tA a5 a8 rfl sk0 (WD.no (by decide)) (fun z M3 f3 l3 => ?_) (fun z M3 f3 t3' p3 e3 => ?_)
  · have f03 : Fr qTf M M3 := fA.trans (f3.mono (fun a i y => qU_f (q7_U y)))
    have x23 : gI M3 142 2 = 0 := by rw [f3.g rfl]; exact a2
    refine ⟨3, c - 3, by omega, rline_r (k := 0) (Nat.le_refl _) (by decide) l3 (fun al Z fZ lZ tZ => ?_) (fun nal => ⟨fun Z fZ eZ => ?_, fun Z fZ tZ pZ eZ => ?_⟩)⟩
    · have rs0 : RSu [] M3 := fun i hi => absurd hi (Nat.not_lt_zero _)
      exact loop 600 (tlS (ub L) N 0 (adv (ub L) N s0), [tlR (ub L) N (adv (ub L) N s0)]) Z (c - 3) lZ (rs0.add fZ tZ) ⟨Nat.le_refl _, by simp only [List.length_singleton]; omega⟩ (by simp only [List.length_singleton]; omega) (by simp only [List.length_singleton]; omega) rfl (f03.trans (fZ.mono (fun a i y => qU_f (qX_U y)))) (by rw [fZ.g rfl]; exact x23)
    · have sk' : SK N (tlS (ub L) N 0 (adv (ub L) N s0)) := l3.2.2.2.2.1.tlS
      have t1' := sk'.2.1 nal
      have e : tlF (ub L) N 0 (tlS (ub L) N 0 (adv (ub L) N s0), [tlR (ub L) N (adv (ub L) N s0)]) = tsL (ub L) N := by
        unfold tsL; rw [tlF_stop (n := 600) (fun y => by simp only [] at y; omega)]; rfl
      apply k12_tests_51_r
      rw [if_pos rfl, eZ]
      exact dead _ e nal t1' Z (f03.trans (fZ.mono (fun a i y => qU_f y))) (by rw [fZ.g rfl]; exact x23)
    · have sk' : SK N (tlS (ub L) N 0 (adv (ub L) N s0)) := l3.2.2.2.2.1.tlS
      have t1' := sk'.2.1 nal
      have e : tlF (ub L) N 0 (tlS (ub L) N 0 (adv (ub L) N s0), [tlR (ub L) N (adv (ub L) N s0)]) = tsL (ub L) N := by
        unfold tsL; rw [tlF_stop (n := 600) (fun y => by simp only [] at y; omega)]; rfl
      apply k12_tests_51_r
      rw [if_neg (by decide), pZ.1, if_neg (by decide), if_neg (by decide), pZ.2.1, if_pos rfl, pZ.2.2.1, bad_w pZ.2.2.2 1 (by decide), ← eZ]
      exact dead _ e nal t1' _ ((f03.trans (fZ.mono (fun a i y => qU_f y))).up _ rfl) (by rw [gI_nf _ _ (by decide), fZ.g rfl]; exact x23)
  · have f03 : Fr qTf M M3 := fA.trans (f3.mono (fun a i y => qU_f (q7_U y)))
    have skA : SK N (adv (ub L) N s0) := sk0.advk
    have t1' := skA.2.1 z
    have ed := tlS_dead (u := ub L) (k := 0) skA z
    have e : tlF (ub L) N 0 (adv (ub L) N s0, [tlR (ub L) N (adv (ub L) N s0)]) = tsL (ub L) N := by
      unfold tsL; rw [ed, tlF_stop (n := 600) (fun y => by simp only [] at y; omega)]; rfl
    refine ⟨3, c - 3, by omega, pnd_line (by decide) p3 ?_⟩
    apply k12_tests_51_r
    rw [if_pos rfl, gI_eq, ← e3]
    exact dead _ e z t1' _ (f03.up _ rfl) (by rw [gI_nf _ _ (by decide), f3.g rfl]; exact a2)

/-! rows of statements -/
/-- the rows of statements -/
def CR (o : Nat) (l : List Stm) (n : Nat) (M : pm_M) : Prop := gI M o 16 = (l.length : Int) ∧ (∀ i : Nat, i < l.length → gI M (o + 12) (i : Int) = (l.getD i zS).1) ∧ (n ≤ 60 → ∀ t ∈ l, gI M (o + 4) t.1 = t.2.1 ∧ gI M (o + 11) t.1 = t.2.2.1)
def CQ (L : Int → Int) (N : Int) (o : Nat) (Q : Qs) (M : pm_M) : Prop := CSt L N o Q.1 M ∧ (Q.1.1.2.2.2.2 = 0 → CR o Q.2 Q.1.2.length M)
def pA (o a i : Nat) : Bool := a == o + 12 || (a == o && i == 16) || a == o + 4 || a == o + 11
def pS (o a i : Nat) : Bool := pE o a i || pA o a i
theorem pE_S {o a i : Nat} (h : pE o a i = true) : pS o a i = true := by simp only [pS, h, Bool.true_or]
theorem pA_S {o a i : Nat} (h : pA o a i = true) : pS o a i = true := by simp only [pS, h, Bool.or_true]
theorem CR.fr {o : Nat} (ho : o = 2 ∨ o = 36) {l : List Stm} {n n' : Nat} {M M' : pm_M} (h : CR o l n M) (hn : n ≤ n') (f : Fr (pE o) M M') : CR o l n' M' := by
  refine ⟨?_, fun i hi => ?_, fun h60 t ht => ?_⟩
  · rw [f.g (by simp [pE, p7] <;> omega)]; exact h.1
  · rw [f.g (by simp [pE, p7] <;> omega)]; exact h.2.1 i hi
  · rw [f.g (by simp [pE, p7] <;> omega), f.g (by simp [pE, p7] <;> omega)]; exact h.2.2 (by omega) t ht
theorem CQ.sc {L : Int → Int} {N : Int} {o : Nat} (ho : o = 2 ∨ o = 36) {Q : Qs} {s : Sc} {M M' : pm_M} (h : CQ L N o Q M) (f : Fr p7 M M') (hs : Hs s M') (ha : s.2.2.2.2 = 0 → Q.1.1.2.2.2.2 = 0) : CQ L N o ((s, Q.1.2), Q.2) M' := ⟨h.1.sc ho f hs, fun z => (h.2 (ha z)).fr ho (Nat.le_refl _) (f.mono (fun a i y => p7_E y))⟩
/-- a mark asked for -/
theorem cmark_r {L : Int → Int} {N c : Int} {o : Nat} (ho : o = 2 ∨ o = 36) {Q : Qs} {M : pm_M} {K : pm_M → Prop} (hG : GP N Q.1) (hC : CQ L N o Q M) (hq : ∀ M', Fr (pS o) M M' → CQ L N o (xmq (ub L) N c Q) M' → K M') : k7_expectMark c M K := by
  refine expectMark_r hC.1.1 hC.1.2.1 hG.1 (fun M' f h => hq M' (f.mono (fun a i y => pE_S (p7_E y))) (hC.sc ho f h (fun z => ?_)))
  exact al_xm (u := ub L) (N := N) (c := c) (Q := Q) z
theorem cadv_r {L : Int → Int} {N : Int} {o : Nat} (ho : o = 2 ∨ o = 36) {Q : Qs} {M : pm_M} {K : pm_M → Prop} (hG : GP N Q.1) (hC : CQ L N o Q M) (hq : ∀ M', Fr (pS o) M M' → CQ L N o (avq (ub L) N Q) M' → K M') : k7_advance M K := by
  have := hG.1.1
  refine advance_r hC.1.1 hC.1.2.1 ⟨by omega, by omega⟩ (fun M' f h => hq M' (f.mono (fun a i y => pE_S (p7_E y))) (hC.sc ho f h (fun z => ?_)))
  exact al_av (u := ub L) (N := N) (Q := Q) z
theorem cref_r {L : Int → Int} {N k : Int} {o : Nat} (ho : o = 2 ∨ o = 36) {Q : Qs} {M : pm_M} {K : pm_M → Prop} (hk : 0 < k ∧ k < 8) (hG : GP N Q.1) (hC : CQ L N o Q M) (hq : ∀ M', Fr (pS o) M M' → CQ L N o (rfq k Q) M' → K M') : (if gI M 70 6 = 0 then K (upI (upI M 70 6 (w32 ((w32 (8 * (gI M 70 3))) + k))) 70 4 1) else K M) := by
  have n6 := hC.1.1.2.1.2
  rw [hC.1.2.1.2.2.2.2, hC.1.2.1.2.1, refuse_w n6 hG.1 k hk]
  by_cases z : Q.1.1.2.2.2.2 = 0
  · rw [if_pos z]
    refine hq _ ((Fr.rf.up _ (by simp [pS, pE, p7])).up _ (by simp [pS, pE, p7])) (hC.sc ho ((Fr.rf.up _ rfl).up _ rfl) (hC.1.2.1.up6 z k) (fun _ => z))
  · rw [if_neg z]
    refine hq M Fr.rf ?_
    rw [rfq_dead z]; exact hC
/-- a statement put in -/
theorem addSt_r {L : Int → Int} {N : Int} {o : Nat} (ho : o = 2 ∨ o = 36) {Q : Qs} {M : pm_M} {K : pm_M → Prop} {kd v par br e : Int} (hlen : Q.1.2.length < 10000) (hC : CSt L N o Q.1 M) (hR : CR o Q.2 Q.1.2.length M) (h20 : Q.2.length < 20) (hw : ∀ t ∈ Q.2, 0 ≤ t.1 ∧ t.1 < (Q.1.2.length : Int)) (hk : 0 ≤ kd ∧ kd ≤ 3) (hv : kd = 0 → 0 ≤ v ∧ v < 9)
    (hq : ∀ M', Fr (pS o) M M' → CSt L N o (Q.1.1, Q.1.2 ++ [(kd, v)]) M' → CR o (Q.2 ++ [((Q.1.2.length : Int), par, br, e)]) (Q.1.2.length + 1) M' → K M') : k0_addStatement o kd v par br M K := by
  obtain ⟨c1, c2, c3, c4, c5, c6⟩ := hC
  obtain ⟨r1, r2, r3⟩ := hR
  have w1 : w32 ((Q.2.length : Int) + 1) = (Q.2.length : Int) + 1 := w32_id (by omega)
  have fin : ∀ A, Fr (pA o) M A → gI A o 16 = (Q.2.length : Int) + 1 → (∀ j : Nat, gI A (o + 12) (j : Int) = if (j : Int) = (Q.2.length : Int) then (Q.1.2.length : Int) else gI M (o + 12) (j : Int)) → (Q.1.2.length < 60 → ∀ j, 0 ≤ j → gI A (o + 4) j = (if j = (Q.1.2.length : Int) then par else gI M (o + 4) j) ∧ gI A (o + 11) j = (if j = (Q.1.2.length : Int) then br else gI M (o + 11) j)) → k0_insert o (Q.1.2.length : Int) kd v A K := by
    intro A fA a16 a12 a4
    have ns : NS o Q.1.2 A := by
      refine ⟨?_, fun h60 i hi => ?_, ?_⟩
      · rw [fA.g (by simp [pA] <;> omega)]; exact c4
      · rw [fA.g (by simp [pA] <;> omega), fA.g (by simp [pA] <;> omega)]; exact c5 h60 i hi
      · rw [fA.g (by simp [pA] <;> omega)]; exact c6
    refine insert_r ho (x := (kd, v)) (Nat.le_refl _) hlen ns (fun z => ?_) (fun M1 f1 n1 => ?_)
    · simp only [] at z ⊢
      exact hv (by omega)
    rw [ins_end] at n1
    have f2 : Fr (pS o) M M1 := (fA.mono (fun a i y => pA_S y)).trans (f1.mono (fun a i y => pE_S (pI_E y)))
    refine hq M1 f2 ⟨?_, ?_, ?_, n1.1, n1.2.1, n1.2.2⟩ ⟨?_, fun i hi => ?_, fun h60 t ht => ?_⟩
    · exact c1.fr f2 (by simp [pS, pE, p7, pA] <;> omega) (fun i => by simp [pS, pE, p7, pA] <;> omega)
    · have h70 : ∀ i, gI M1 70 i = gI M 70 i := fun i => by rw [f1.g (by simp [pI] <;> omega), fA.g (by simp [pA] <;> omega)]
      unfold Hs; rw [h70, h70, h70, h70, h70]; exact c2
    · rw [f1.g (by simp [pI] <;> omega), fA.g (by simp [pA] <;> omega)]; exact c3
    · rw [f1.g (by simp [pI]), a16, List.length_append]; simp only [List.length_singleton]; omega
    · rw [List.length_append] at hi
      simp only [List.length_singleton] at hi
      rw [f1.g (by simp [pI]), a12]
      by_cases z : i = Q.2.length
      · rw [if_pos (by omega), z, gdB (Nat.le_refl _), Nat.sub_self]; rfl
      · rw [if_neg (by omega), gdA (by omega)]; exact r2 i (by omega)
    · have ht' : t ∈ Q.2 ∨ t = ((Q.1.2.length : Int), par, br, e) := (List.mem_append.mp ht).imp_right List.mem_singleton.mp
      rcases ht' with ht' | ht'
      · have hb := hw t ht'
        have ha := a4 (by omega) t.1 hb.1
        rw [f1.g (by simp [pI]), f1.g (by simp [pI]), ha.1, ha.2, if_neg (by omega), if_neg (by omega)]
        exact r3 (by omega) t ht'
      · subst ht'
        have ha := a4 (by omega) (Q.1.2.length : Int) (by omega)
        rw [f1.g (by simp [pI]), f1.g (by simp [pI]), ha.1, ha.2, if_pos rfl, if_pos rfl]
        exact ⟨rfl, rfl⟩
  apply k0_addStatement_r ho
  rw [r1, c4, w1, if_pos (by omega)]
  refine ⟨⟨by omega, by omega⟩, ?_⟩
  have e12 : ∀ (X : pm_M), gI (upI (upI X (o + 12) (Q.2.length : Int) (Q.1.2.length : Int)) o 16 ((Q.2.length : Int) + 1)) o 16 = (Q.2.length : Int) + 1 := fun X => gI_eq _ _ _ _
  by_cases h60 : Q.1.2.length < 60
  · rw [if_pos (by omega)]
    refine ⟨⟨by omega, by omega⟩, fin _ ((((Fr.rf.up _ (by simp [pA])).up _ (by simp [pA])).up _ (by simp [pA])).up _ (by simp [pA])) ?_ (fun j => ?_) (fun _ j j0 => ⟨?_, ?_⟩)⟩
    · rw [gI_ne _ _ _ _ (by omega), gI_ne _ _ _ _ (by omega), gI_eq]
    · rw [gI_ne _ _ _ _ (by omega), gI_ne _ _ _ _ (by omega), gI_ne _ _ _ _ (by omega), gI_up _ _ (by omega) (by omega)]
    · rw [gI_ne _ _ _ _ (by omega), gI_up _ _ (by omega) j0, gI_ne _ _ _ _ (by omega), gI_ne _ _ _ _ (by omega)]
    · rw [gI_up _ _ (by omega) j0, gI_ne _ _ _ _ (by omega), gI_ne _ _ _ _ (by omega), gI_ne _ _ _ _ (by omega)]
  · rw [if_neg (by omega)]
    refine fin _ ((Fr.rf.up _ (by simp [pA])).up _ (by simp [pA])) (gI_eq _ _ _ _) (fun j => ?_) (fun z => absurd z h60)
    rw [gI_ne _ _ _ _ (by omega), gI_up _ _ (by omega) (by omega)]

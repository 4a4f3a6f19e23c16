/-! the call that feeds; the calls that tell -/
def pt (v : Int) (f : Int → Int) (tp i : Int) : Int := if i = tp + 1 + 1 + 1 then w8 (w8 (pm_ishr v 0)) else if i = tp + 1 + 1 then w8 (w8 (pm_ishr v 8)) else if i = tp + 1 then w8 (w8 (pm_ishr v 16)) else if i = tp then w8 (w8 (pm_ishr v 24)) else f i
theorem w8_rng (x : Int) : -128 ≤ w8 x ∧ w8 x ≤ 127 := by unfold w8; omega
theorem pt_rng {v : Int} {f : Int → Int} {tp i : Int} (h : -128 ≤ f i ∧ f i ≤ 127) : -128 ≤ pt v f tp i ∧ pt v f tp i ≤ 127 := by
  unfold pt
  split
  · exact w8_rng _
  split
  · exact w8_rng _
  split
  · exact w8_rng _
  split
  · exact w8_rng _
  · exact h
theorem pt_same {v : Int} {f g : Int → Int} {tp i : Int} (h : f i = g i) : pt v f tp i = pt v g tp i := by unfold pt; rw [h]
def pFd (a i : Nat) : Bool := a == 1 || (a == 0 && i == 1)
def qFd (a i : Nat) : Bool := a == 143 || (a == 142 && (i == 0 || i == 2))
theorem capp_r {v tp : Int} {M : pm_M} {K : pm_M → Prop} (e : gI M 0 1 = tp) (h : 0 ≤ tp ∧ tp + 4 ≤ 600) (hq : ∀ M', Fr pFd M M' → gI M' 0 1 = tp + 1 + 1 + 1 + 1 → (∀ i, 0 ≤ i → gI M' 1 i = pt v (gI M 1) tp i) → K M') : k11_append v M K := by
  apply k11_append_r
  have w1 : w32 (tp + 1) = tp + 1 := w32_id (by omega)
  have w2 : w32 (tp + 1 + 1) = tp + 1 + 1 := w32_id (by omega)
  have w3 : w32 (tp + 1 + 1 + 1) = tp + 1 + 1 + 1 := w32_id (by omega)
  have w4 : w32 (tp + 1 + 1 + 1 + 1) = tp + 1 + 1 + 1 + 1 := w32_id (by omega)
  apply k11_append_3_r
  rw [if_neg (by decide), e, if_pos (by omega), w1, show w32 (24 + (-8)) = 16 by decide]
  refine ⟨⟨by omega, by omega⟩, ?_⟩
  apply k11_append_3_r
  rw [if_neg (by decide), gI_eq, if_pos (by omega), w2, show w32 (16 + (-8)) = 8 by decide]
  refine ⟨⟨by omega, by omega⟩, ?_⟩
  apply k11_append_3_r
  rw [if_neg (by decide), gI_eq, if_pos (by omega), w3, show w32 (8 + (-8)) = 0 by decide]
  refine ⟨⟨by omega, by omega⟩, ?_⟩
  apply k11_append_3_r
  rw [if_neg (by decide), gI_eq, if_pos (by omega), w4, show w32 (0 + (-8)) = -8 by decide]
  refine ⟨⟨by omega, by omega⟩, ?_⟩
  apply k11_append_3_r
  rw [if_pos (by decide)]
  refine hq _ ((((((((Fr.rf.up _ rfl).up _ rfl).up _ rfl).up _ rfl).up _ rfl).up _ rfl).up _ rfl).up _ rfl) (gI_eq _ _ _ _) (fun i i0 => ?_)
  rw [gI_ne _ _ _ _ (by decide), gI_up _ _ (by omega) i0, gI_ne _ _ _ _ (by decide), gI_up _ _ (by omega) i0, gI_ne _ _ _ _ (by decide), gI_up _ _ (by omega) i0, gI_ne _ _ _ _ (by decide), gI_up _ _ (by omega) i0]
  rfl
theorem rput_r {v tp : Int} {M : pm_M} {K : pm_M → Prop} (e : gI M 142 2 = tp) (h : 0 ≤ tp ∧ tp + 4 ≤ 600) (hq : ∀ M', Fr qFd M M' → gI M' 142 2 = tp + 1 + 1 + 1 + 1 → (∀ i, 0 ≤ i → gI M' 143 i = pt v (gI M 143) tp i) → K M') : k12_puts v M K := by
  apply k12_puts_r
  have w1 : w32 (tp + 1) = tp + 1 := w32_id (by omega)
  have w2 : w32 (tp + 1 + 1) = tp + 1 + 1 := w32_id (by omega)
  have w3 : w32 (tp + 1 + 1 + 1) = tp + 1 + 1 + 1 := w32_id (by omega)
  have w4 : w32 (tp + 1 + 1 + 1 + 1) = tp + 1 + 1 + 1 + 1 := w32_id (by omega)
  apply k12_puts_3_r
  rw [if_neg (by decide), e, w1, show w32 (24 + (-8)) = 16 by decide]
  refine ⟨⟨by omega, by omega⟩, ?_⟩
  apply k12_puts_3_r
  rw [if_neg (by decide), gI_eq, w2, show w32 (16 + (-8)) = 8 by decide]
  refine ⟨⟨by omega, by omega⟩, ?_⟩
  apply k12_puts_3_r
  rw [if_neg (by decide), gI_eq, w3, show w32 (8 + (-8)) = 0 by decide]
  refine ⟨⟨by omega, by omega⟩, ?_⟩
  apply k12_puts_3_r
  rw [if_neg (by decide), gI_eq, w4, show w32 (0 + (-8)) = -8 by decide]
  refine ⟨⟨by omega, by omega⟩, ?_⟩
  apply k12_puts_3_r
  rw [if_pos (by decide)]
  refine hq _ ((((((((Fr.rf.up _ rfl).up _ rfl).up _ rfl).up _ rfl).up _ rfl).up _ rfl).up _ rfl).up _ rfl) (gI_eq _ _ _ _) (fun i i0 => ?_)
  rw [gI_ne _ _ _ _ (by decide), gI_up _ _ (by omega) i0, gI_ne _ _ _ _ (by decide), gI_up _ _ (by omega) i0, gI_ne _ _ _ _ (by decide), gI_up _ _ (by omega) i0, gI_ne _ _ _ _ (by decide), gI_up _ _ (by omega) i0]
  rfl
theorem lp_feed {a b c d e : Int} {M : pm_M} {K : Int → Int → pm_M → Prop} (h : INV M) (hK : ∀ a M2, INV M2 → K a a M2) : k11_feed a b c d e M (fun r1 M1 => k12_feed a b c d e M1 (fun r2 M2 => K r1 r2 M2)) := by
  obtain ⟨P, T, nT, hw, hC, hR, hT⟩ := h
  have hT' := hT
  obtain ⟨⟨ta1, ta2, ta3⟩, tb⟩ := hT'
  obtain ⟨tp, etp⟩ : ∃ tp, tp = gI M 0 1 := ⟨_, rfl⟩
  rw [← etp] at ta1 ta2 ta3
  have w20 : w32 (tp + 20) = tp + 20 := w32_id (by omega)
  apply k11_feed_r
  rw [← etp, w20]
  by_cases g : tp + 20 ≤ 600
  case neg =>
    rw [if_neg g]
    apply k12_feed_r
    rw [← ta1, w20, if_neg g]
    refine hK _ _ ⟨P, T, nT, hw, ?_, (th0 hR 0).2, ?_⟩
    · exact hC.fr (p := fun a i => a == 142 && i == 0) (Fr.rf.up _ rfl) (fun a i y => by have := cR_142 y; simp; omega)
    · exact hT.fr (p := fun a i => a == 142 && i == 0) (Fr.rf.up _ rfl) rfl rfl (fun _ => rfl) (fun _ => rfl)
  rw [if_pos g]
  refine capp_r (tp := tp) etp.symm ⟨by omega, by omega⟩ (fun M1 f1 e1 p1 => ?_)
  refine capp_r e1 ⟨by omega, by omega⟩ (fun M2 f2 e2 p2 => ?_)
  refine capp_r e2 ⟨by omega, by omega⟩ (fun M3 f3 e3 p3 => ?_)
  refine capp_r e3 ⟨by omega, by omega⟩ (fun M4 f4 e4 p4 => ?_)
  refine capp_r e4 ⟨by omega, by omega⟩ (fun M5 f5 e5 p5 => ?_)
  have f05 : Fr pFd M M5 := (((f1.trans f2).trans f3).trans f4).trans f5
  have hi : ∀ a i, 142 ≤ a → gI M5 a i = gI M a i := fun a i y => f05.g (by simp [pFd]; omega)
  apply k12_feed_r
  rw [hi _ _ (by decide), ← ta1, w20, if_pos g]
  have f0 : Fr qFd M5 (upI M5 142 0 0) := Fr.rf.up _ rfl
  have z0 : gI (upI M5 142 0 0) 142 2 = tp := by rw [gI_nf _ _ (by decide), hi _ _ (by decide)]; exact ta1.symm
  have y0 : ∀ i, gI (upI M5 142 0 0) 143 i = gI M 143 i := fun i => by rw [gI_ne _ _ _ _ (by decide), hi _ _ (by decide)]
  generalize upI M5 142 0 0 = N0 at *
  refine rput_r z0 ⟨by omega, by omega⟩ (fun N1 g1 z1 q1 => ?_)
  refine rput_r z1 ⟨by omega, by omega⟩ (fun N2 g2 z2 q2 => ?_)
  refine rput_r z2 ⟨by omega, by omega⟩ (fun N3 g3 z3 q3 => ?_)
  refine rput_r z3 ⟨by omega, by omega⟩ (fun N4 g4 z4 q4 => ?_)
  refine rput_r z4 ⟨by omega, by omega⟩ (fun N5 g5 z5 q5 => ?_)
  have g05 : Fr qFd M5 N5 := ((((f0.trans g1).trans g2).trans g3).trans g4).trans g5
  rw [e5, z5]
  refine hK _ _ ⟨P, T, nT, hw, (hC.fr f05 (fun a i y => by have := cR_142 y; simp [pFd]; omega)).fr g05 (fun a i y => by have := cR_142 y; simp [qFd]; omega), (hR.fr f05 (fun a i y => by have := rR_142 y; simp [pFd]; omega)).fr g05 (fun a i y => ?_), ⟨?_, ?_, ?_⟩, fun i i0 i1 => ?_⟩
  · simp only [rR, Bool.or_eq_true, Bool.and_eq_true, beq_iff_eq, decide_eq_true_eq] at y
    simp [qFd]; omega
  · rw [g05.g rfl, e5, z5]
  · rw [g05.g rfl, e5]; omega
  · rw [g05.g rfl, e5]; omega
  · have k5 : gI N5 1 i = gI M5 1 i := g05.g rfl
    obtain ⟨t1', t2'⟩ := tb i i0 i1
    have s1 : gI M1 1 i = gI N1 143 i := by rw [p1 i i0, q1 i i0]; exact pt_same (by rw [y0]; exact t1')
    have s2 : gI M2 1 i = gI N2 143 i := by rw [p2 i i0, q2 i i0]; exact pt_same s1
    have s3 : gI M3 1 i = gI N3 143 i := by rw [p3 i i0, q3 i i0]; exact pt_same s2
    have s4 : gI M4 1 i = gI N4 143 i := by rw [p4 i i0, q4 i i0]; exact pt_same s3
    have s5 : gI M5 1 i = gI N5 143 i := by rw [p5 i i0, q5 i i0]; exact pt_same s4
    rw [k5]
    refine ⟨s5, ?_⟩
    rw [p5 i i0]
    refine pt_rng ?_
    rw [p4 i i0]
    refine pt_rng ?_
    rw [p3 i i0]
    refine pt_rng ?_
    rw [p2 i i0]
    refine pt_rng ?_
    rw [p1 i i0]
    exact pt_rng t2'
theorem pC_142 {a i : Nat} (h : pC a i = true) : a < 142 ∧ ¬ a = 1 ∧ ¬ (a = 0 ∧ i = 1) := by
  simp only [pC, Bool.and_eq_true, Bool.not_eq_true', decide_eq_true_eq, beq_eq_false_iff_ne, Bool.and_eq_false_iff] at h
  omega
theorem qR_142 {a i : Nat} (h : qR a i = true) : 142 ≤ a ∧ ¬ a = 143 ∧ ¬ (a = 142 ∧ i = 2) := by
  simp only [qR, Bool.and_eq_true, Bool.not_eq_true', decide_eq_true_eq, beq_eq_false_iff_ne, Bool.and_eq_false_iff] at h
  omega
theorem pC_r {a i : Nat} (h : 142 ≤ a) : pC a i = false := Bool.eq_false_iff.mpr (fun z => by have := pC_142 z; omega)
theorem qR_c {a i : Nat} (h : a < 142) : qR a i = false := Bool.eq_false_iff.mpr (fun z => by have := qR_142 z; omega)
theorem TA.cr {M M1 M2 : pm_M} (h : TA M) (f1 : Fr pC M M1) (f2 : Fr qR M1 M2) : TA M2 := (h.fr f1 rfl (pC_r (by decide)) (fun i => by simp [pC]) (fun i => pC_r (by decide))).fr f2 (qR_c (by decide)) rfl (fun i => qR_c (by decide)) (fun i => by simp [qR])
theorem TA.c1 {M M1 : pm_M} (h : TA M) (f1 : Fr pC M M1) : TA M1 := h.fr f1 rfl (pC_r (by decide)) (fun i => by simp [pC]) (fun i => pC_r (by decide))
/-- a call that tells alone -/
theorem lp_same {k k' : pm_M → (Int → pm_M → Prop) → Prop} (hs : ∀ (P : Pg) (T : Ts) (nT : Int), WF P → WK P → TI T nT → (0 ≤ nT ∧ nT ≤ 16) → Same P T nT k k') {M : pm_M} {K : Int → Int → pm_M → Prop} (h : INV M) (hK : ∀ a M2, INV M2 → K a a M2) : k M (fun r1 M1 => k' M1 (fun r2 M2 => K r1 r2 M2)) := by
  obtain ⟨P, T, nT, ⟨hW, hWK, hTI⟩, hC, hR, hT⟩ := h
  obtain ⟨a, s1, s2⟩ := hs P T nT hW hWK hTI hC.1.2.1.2.1
  refine s1 M _ hC (fun M1 f1 c1 => ?_)
  have r1 : RI P T nT M1 := hR.fr f1 (fun a i y => pC_r (rR_142 y))
  refine s2 M1 _ r1 (fun M2 f2 r2 => ?_)
  exact hK a M2 ⟨P, T, nT, ⟨hW, hWK, hTI⟩, c1.fr f2 (fun a i y => qR_c (cR_142 y).1), r2, hT.cr f1 f2⟩
theorem lp_sameP {k k' : pm_M → (Int → pm_M → Prop) → Prop} (hs : ∀ (P : Pg) (T : Ts) (nT : Int), WF P → WK P → ∃ P', WF P' ∧ WK P' ∧ SameP P P' T nT k k') {M : pm_M} {K : Int → Int → pm_M → Prop} (h : INV M) (hK : ∀ a M2, INV M2 → K a a M2) : k M (fun r1 M1 => k' M1 (fun r2 M2 => K r1 r2 M2)) := by
  obtain ⟨P, T, nT, ⟨hW, hWK, hTI⟩, hC, hR, hT⟩ := h
  obtain ⟨P', hW', hWK', a, s1, s2⟩ := hs P T nT hW hWK
  refine s1 M _ hC (fun M1 f1 c1 => ?_)
  have r1 : RI P T nT M1 := hR.fr f1 (fun a i y => pC_r (rR_142 y))
  refine s2 M1 _ r1 (fun M2 f2 r2 => ?_)
  exact hK a M2 ⟨P', T, nT, ⟨hW', hWK', hTI⟩, c1.fr f2 (fun a i y => qR_c (cR_142 y).1), r2, hT.cr f1 f2⟩
theorem lp_count {w : Int} {M : pm_M} {K : Int → Int → pm_M → Prop} (h : INV M) (hK : ∀ a M2, INV M2 → K a a M2) : k11_count w M (fun r1 M1 => k12_count w M1 (fun r2 M2 => K r1 r2 M2)) := by
  by_cases w8' : w = 8
  case neg => exact lp_same (fun P T nT hW hWK _ hn => op_count hW hWK hn w w8') h hK
  subst w8'
  obtain ⟨P, T, nT, hw, hC, hR, hT⟩ := h
  apply k11_count_r
  rw [if_neg (by decide), if_neg (by decide), if_neg (by decide), if_neg (by decide), if_neg (by decide), if_neg (by decide), if_neg (by decide), if_neg (by decide), if_pos rfl]
  apply k12_count_r
  rw [if_neg (by decide), if_neg (by decide), if_neg (by decide), if_neg (by decide), if_neg (by decide), if_neg (by decide), if_neg (by decide), if_neg (by decide), if_pos rfl]
  rw [hT.1.1]
  refine hK _ _ ⟨P, T, nT, hw, ?_, (th0 hR 0).2, ?_⟩
  · exact hC.fr (p := fun a i => a == 142 && i == 0) (Fr.rf.up _ rfl) (fun a i y => by have := cR_142 y; simp; omega)
  · exact hT.fr (p := fun a i => a == 142 && i == 0) (Fr.rf.up _ rfl) rfl rfl (fun _ => rfl) (fun _ => rfl)

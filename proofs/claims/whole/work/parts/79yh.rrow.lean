/-! the other reader: rows of statements -/
/-- a row of statements as far as it is read -/
def JR (L : Int → Int) (N p b dep : Int) (n0 o : Nat) (l0 : List Stm) (Q : Qs) (M : pm_M) (last : Int) : Prop :=
  LQ L N dep Q M ∧ (WLs Q.1.2 Q.2 ∧ Opn Q.2 p ∧ PrO Q.1.2 Q.2 p b ∧ n0 ≤ Q.1.2.length) ∧
  (∀ t ∈ Q.2, (n0 : Int) ≤ t.1 → RDt M Q.2 t) ∧ (∀ t ∈ Q.2, (n0 : Int) ≤ t.1 → ¬ t.1 = last → RNt M Q.2 t) ∧
  (0 ≤ p → FiS Q.2 p b (p + 1) (gI M o (100 + p))) ∧
  (∀ t ∈ l0, t ∈ Q.2) ∧ (∀ t ∈ Q.2, t ∈ l0 ∨ ((n0 : Int) ≤ t.1 ∧ ((t.2.1 = p ∧ t.2.2.1 = b) ∨ (n0 : Int) ≤ t.2.1))) ∧
  ((last = -1 ∧ ∀ t ∈ Q.2, t ∈ l0) ∨ (∃ t ∈ Q.2, t.1 = last ∧ (n0 : Int) ≤ last ∧ t.2.1 = p ∧ t.2.2.1 = b ∧ Opn Q.2 last ∧ gI M 152 (100 + last) = -1))
/-- what stands before a row -/
def J0 (p b : Int) (n0 : Nat) (l0 : List Stm) : Prop := (-1 ≤ p ∧ p < (n0 : Int)) ∧ (∀ t ∈ l0, t.1 < (n0 : Int)) ∧ ∀ t ∈ l0, ¬ (p + 1 ≤ t.1 ∧ t.2.1 = p ∧ t.2.2.1 = b)
theorem WLs.par {n : List (Int × Int)} {l : List Stm} (h : WLs n l) {t : Stm} (ht : t ∈ l) : -1 ≤ t.2.1 ∧ t.2.1 < t.1 := by
  obtain ⟨hb, -, -, hp⟩ := h.2.2.2.1 t ht
  rcases hp with ⟨y, -⟩ | ⟨s, s1, s2, s3, -⟩
  · omega
  · have := (h.2.2.2.1 s s1).1; omega
/-- the list behind one statement more -/
theorem rst_mem {u : Int → Int} {N : Int} {f : Nat} {p b dep : Int} {Q : Qs} (d0 : 0 ≤ dep) (d4 : dep ≤ 4) (hf : 5 - dep ≤ f) (hG : GP N Q.1) (h0 : Q.1.1.2.2.2.2 = 0) (w : WLs Q.1.2 Q.2) (o : Opn Q.2 p) (pr : PrO Q.1.2 Q.2 p b) (ha : (rst u N f p b dep Q).1.1.2.2.2.2 = 0) :
    (∀ t ∈ Q.2, t ∈ (rst u N f p b dep Q).2) ∧ (∃ e, ((Q.1.2.length : Int), p, b, e) ∈ (rst u N f p b dep Q).2) ∧ (∀ t ∈ (rst u N f p b dep Q).2, t ∈ Q.2 ∨ (t.1 = (Q.1.2.length : Int) ∧ t.2.1 = p ∧ t.2.2.1 = b) ∨ ((Q.1.2.length : Int) < t.1 ∧ (Q.1.2.length : Int) ≤ t.2.1)) ∧ WLs (rst u N f p b dep Q).1.2 (rst u N f p b dep Q).2 ∧ Opn (rst u N f p b dep Q).2 p ∧ PrO (rst u N f p b dep Q).1.2 (rst u N f p b dep Q).2 p b ∧ Opn (rst u N f p b dep Q).2 (Q.1.2.length : Int) ∧ Q.1.2.length ≤ (rst u N f p b dep Q).1.2.length ∧ Q.2.length + 1 ≤ (rst u N f p b dep Q).2.length := by
  obtain ⟨q1, q2, q3, q4⟩ := rst_ok f p b dep Q d0 d4 hf hG h0 w o pr ha
  obtain ⟨-, rr⟩ := rst_keep d0 d4 hf hG (fun _ => ⟨w, o, pr⟩) ha
  obtain ⟨E, g, -, e2, e3, r, o2⟩ := exq_ok hG h0 q1 q2 w o pr q3
  generalize rst u N f p b dep Q = Q2 at *
  obtain ⟨⟨X, D, e4, e5⟩, w2, o3⟩ := q4
  have hS : SrL Q2.2 := SrL.of w2.srt
  have oK := o3 _ (Int.le_refl _) o2
  rw [e3] at e5
  refine ⟨fun t ht => ?_, ⟨_, by rw [e5]; exact List.mem_append_left _ (List.mem_append_right _ (List.mem_singleton.mpr rfl))⟩, fun t ht => ?_, w2, rr.2.2 p (Int.le_refl _) o, rr.pr w pr, oK, ?_, ?_⟩
  · rw [e5]; exact List.mem_append_left _ (List.mem_append_left _ ht)
  · have ht' := ht
    rw [e5] at ht
    rcases List.mem_append.mp ht with ht | ht
    · rcases List.mem_append.mp ht with ht | ht
      · exact Or.inl ht
      · rw [List.mem_singleton] at ht
        subst ht
        exact Or.inr (Or.inl ⟨rfl, rfl, rfl⟩)
    · rw [e5] at hS
      have h1 := hS.app _ (List.mem_append_right _ (List.mem_singleton.mpr rfl)) t ht
      simp only [] at h1
      exact Or.inr (Or.inr ⟨h1, oK t ht' h1⟩)
  · obtain ⟨⟨X', D', e6, -⟩, -⟩ := rr
    rw [e6, List.length_append]; omega
  · rw [e5, List.length_append, List.length_append]
    show Q.2.length + 1 ≤ Q.2.length + 1 + D.length
    omega
theorem LQ.keep {L : Int → Int} {N dep : Int} {Q : Qs} {M M' : pm_M} (h : LQ L N dep Q M) (k : ∀ a i, a ≠ 150 → a ≠ 151 → a ≠ 152 → gI M' a i = gI M a i) : LQ L N dep Q M' := by
  obtain ⟨⟨⟨hT, hr, hR⟩, hw, e8, e20⟩, q, e19, e21⟩ := h
  refine ⟨⟨⟨⟨?_, hT.2.1, fun i i0 i1 => ?_⟩, ?_, ⟨?_, fun i hi => ?_⟩⟩, fun i hi => ?_, ?_, ?_⟩, q, ?_, ?_⟩
  · rw [k _ _ (by decide) (by decide) (by decide)]; exact hT.1
  · rw [k _ _ (by decide) (by decide) (by decide)]; exact hT.2.2 i i0 i1
  · unfold Hr; rw [k _ _ (by decide) (by decide) (by decide), k _ _ (by decide) (by decide) (by decide), k _ _ (by decide) (by decide) (by decide), k _ _ (by decide) (by decide) (by decide)]; exact hr
  · rw [k _ _ (by decide) (by decide) (by decide)]; exact hR.1
  · rw [k _ _ (by decide) (by decide) (by decide), k _ _ (by decide) (by decide) (by decide)]; exact hR.2 i hi
  · rw [k _ _ (by decide) (by decide) (by decide), k _ _ (by decide) (by decide) (by decide), k _ _ (by decide) (by decide) (by decide)]; exact hw i hi
  · rw [k _ _ (by decide) (by decide) (by decide)]; exact e8
  · rw [k _ _ (by decide) (by decide) (by decide)]; exact e20
  · rw [k _ _ (by decide) (by decide) (by decide)]; exact e19
  · rw [k _ _ (by decide) (by decide) (by decide)]; exact e21
/-- rows kept, the list grown: a statement's rows still hold -/
theorem RDt.ext {M M' : pm_M} {l l' : List Stm} {t : Stm} (h : RDt M l t) (h1 : ∀ s ∈ l, s ∈ l') (h2 : ∀ s ∈ l', s ∈ l ∨ ¬ s.2.1 = t.1) (k : ∀ a, 145 ≤ a → a ≤ 149 → ∀ j, t.1 ≤ j → j ≤ t.2.2.2 → gI M' a (100 + j) = gI M a (100 + j)) (k0 : gI M' 150 (100 + t.1) = gI M 150 (100 + t.1)) (k1 : gI M' 151 (100 + t.1) = gI M 151 (100 + t.1)) (hle : t.1 ≤ t.2.2.2) : RDt M' l' t := by
  obtain ⟨a1, a2, a3, a4, a7, g, a5⟩ := h
  have hle5 := a5.le
  refine ⟨?_, ?_, ?_, ?_, by rw [k 147 (by decide) (by decide) (t.1 + 1) (by omega) hle5]; exact a7, g, a5.same (fun j j0 j1 => ⟨k _ (by decide) (by decide) j (by omega) j1, k _ (by decide) (by decide) j (by omega) j1, k _ (by decide) (by decide) j (by omega) j1⟩) (fun j j0 j1 => k _ (by decide) (by decide) j (by omega) j1)⟩
  · rw [k _ (by decide) (by decide) _ (Int.le_refl _) hle]; exact a1
  · rw [k _ (by decide) (by decide) _ (Int.le_refl _) hle]; exact a2
  · rw [k0]; exact a3.ext h1 (fun s hs => (h2 s hs).imp_right (fun z _ y _ => absurd y z))
  · rw [k1]; exact a4.ext h1 (fun s hs => (h2 s hs).imp_right (fun z _ y _ => absurd y z))
theorem JR.step {L : Int → Int} {N p b dep : Int} {n0 o f : Nat} {l0 : List Stm} {Q : Qs} {M M2 M3 : pm_M} {last : Int} (ho : o = 150 ∨ o = 151) (d0 : 0 ≤ dep) (d4 : dep ≤ 4) (hf : 5 - dep ≤ f) (h : JR L N p b dep n0 o l0 Q M last) (hj : J0 p b n0 l0) (ha : (rst (ub L) N f p b dep Q).1.1.2.2.2.2 = 0) (f2 : Fr (qS Q.1.2.length) M M2) (lq2 : LQ L N dep (rst (ub L) N f p b dep Q) M2) (rd2 : ∀ t ∈ (rst (ub L) N f p b dep Q).2, (Q.1.2.length : Int) ≤ t.1 → RDt M2 (rst (ub L) N f p b dep Q).2 t) (rn2 : ∀ t ∈ (rst (ub L) N f p b dep Q).2, (Q.1.2.length : Int) < t.1 → RNt M2 (rst (ub L) N f p b dep Q).2 t) (e2 : gI M2 152 (100 + (Q.1.2.length : Int)) = -1)
    (hM : (last = -1 ∧ p < 0 ∧ M3 = M2) ∨ (last = -1 ∧ 0 ≤ p ∧ M3 = upI M2 o (100 + p) (Q.1.2.length : Int)) ∨ (¬ last = -1 ∧ M3 = upI M2 152 (100 + last) (Q.1.2.length : Int))) : JR L N p b dep n0 o l0 (rst (ub L) N f p b dep Q) M3 (Q.1.2.length : Int) := by
  obtain ⟨lq, ⟨w, op, pr, hn0⟩, rd, rn, fs, s1, s2, hl⟩ := h
  obtain ⟨⟨p0, pn⟩, j1, j2⟩ := hj
  obtain ⟨m1, ⟨e, hhd⟩, m2, w2, op2, pr2, ok2, hk, hlen⟩ := rst_mem d0 d4 hf lq.gp lq.2.1.1 w op pr ha
  generalize rst (ub L) N f p b dep Q = Q2 at *
  have old : ∀ t ∈ Q.2, 0 ≤ t.1 ∧ t.1 < t.2.2.2 ∧ t.2.2.2 < (Q.1.2.length : Int) := fun t ht => (w.2.2.2.1 t ht).1
  have opar : ∀ t ∈ Q.2, -1 ≤ t.2.1 ∧ t.2.1 < t.1 := fun t ht => w.par ht
  have hlast : last = -1 ∨ ((n0 : Int) ≤ last ∧ last < (Q.1.2.length : Int)) := by
    rcases hl with ⟨y, -⟩ | ⟨t, t1, t2, t3, -⟩
    · exact Or.inl y
    · have := old t t1; exact Or.inr ⟨t3, by omega⟩
  -- what the last writing changes
  have k23 : ∀ a j, 0 ≤ j → (a = o → ¬ j = p) → (a = 152 → ¬ j = last) → gI M3 a (100 + j) = gI M2 a (100 + j) := by
    intro a j j0 q1 q2
    rcases hM with ⟨-, -, y⟩ | ⟨-, y1, y⟩ | ⟨y1, y⟩
    · rw [y]
    · rw [y]
      by_cases z : a = o
      · subst z; rw [gI_up _ _ (by omega) (by omega), if_neg (by have := q1 rfl; omega)]
      · exact gI_ne _ _ _ _ z
    · rw [y]
      by_cases z : a = 152
      · subst z; rw [gI_up _ _ (by omega) (by omega), if_neg (by have := q2 rfl; omega)]
      · exact gI_ne _ _ _ _ z
  have kall : ∀ a i, a ≠ 150 → a ≠ 151 → a ≠ 152 → gI M3 a i = gI M2 a i := by
    intro a i q1 q2 q3
    rcases hM with ⟨-, -, y⟩ | ⟨-, -, y⟩ | ⟨-, y⟩
    · rw [y]
    · rw [y]; exact gI_ne _ _ _ _ (fun z => ho.elim (fun e => q1 (z.trans e)) (fun e => q2 (z.trans e)))
    · rw [y]; exact gI_ne _ _ _ _ q3
  have k12 : ∀ a j, 145 ≤ a → a ≤ 152 → 0 ≤ j → j < (Q.1.2.length : Int) → gI M2 a (100 + j) = gI M a (100 + j) := fun a j a1 a2 j0 j1 => f2.g (by simp [qS, qE]; omega)
  have k13 : ∀ a j, 145 ≤ a → a ≤ 152 → 0 ≤ j → j < (Q.1.2.length : Int) → (a = o → ¬ j = p) → (a = 152 → ¬ j = last) → gI M3 a (100 + j) = gI M a (100 + j) := fun a j a1 a2 j0 j1 q1 q2 => by rw [k23 a j j0 q1 q2, k12 a j a1 a2 j0 j1]
  -- a fitting one is the new one
  have fit : ∀ t ∈ Q2.2, t.2.1 = p → t ∈ Q.2 ∨ (t.1 = (Q.1.2.length : Int) ∧ t.2.2.1 = b) := by
    intro t ht y
    rcases m2 t ht with q | ⟨q1, q2, q3⟩ | ⟨q1, q2⟩
    · exact Or.inl q
    · exact Or.inr ⟨q1, q3⟩
    · omega
  refine ⟨lq2.keep kall, ⟨w2, op2, pr2, by omega⟩, fun t ht hn => ?_, fun t ht hn hne => ?_, fun hp => ?_, fun t ht => m1 t (s1 t ht), fun t ht => ?_, Or.inr ⟨_, hhd, rfl, by omega, rfl, rfl, ok2, ?_⟩⟩
  · -- rows of blocks
    have hb2 := (w2.2.2.2.1 t ht).1
    by_cases c : (Q.1.2.length : Int) ≤ t.1
    · refine (rd2 t ht c).ext (fun s hs => hs) (fun s hs => Or.inl hs) (fun a a1 a2 j j1 j2 => k23 a j (by omega) (by omega) (by omega)) (k23 150 t.1 (by omega) (by omega) (by omega)) (k23 151 t.1 (by omega) (by omega) (by omega)) (by omega)
    · have hto : t ∈ Q.2 := by
        rcases m2 t ht with q | ⟨q, -⟩ | ⟨q, -⟩
        · exact q
        · omega
        · omega
      have ho1 := old t hto
      refine (rd t hto hn).ext m1 (fun s hs => ?_) (fun a a1 a2 j j1 j2 => k13 a j a1 (by omega) (by omega) (by omega) (by omega) (by omega)) (k13 150 t.1 (by decide) (by decide) (by omega) (by omega) (by omega) (by omega)) (k13 151 t.1 (by decide) (by decide) (by omega) (by omega) (by omega) (by omega)) (by omega)
      rcases m2 s hs with q | ⟨-, q, -⟩ | ⟨-, q⟩
      · exact Or.inl q
      · exact Or.inr (by omega)
      · exact Or.inr (by omega)
  · -- rows of what comes next
    by_cases c : (Q.1.2.length : Int) < t.1
    · unfold RNt
      rw [k23 152 t.1 (by omega) (by omega) (by omega)]
      exact rn2 t ht c
    · have hto : t ∈ Q.2 := by
        rcases m2 t ht with q | ⟨q, -⟩ | ⟨q, -⟩
        · exact q
        · omega
        · omega
      have ho1 := old t hto
      have hpt := opar t hto
      by_cases c2 : t.1 = last
      · -- the one before: the new one comes next
        have hM' : ¬ last = -1 ∧ M3 = upI M2 152 (100 + last) (Q.1.2.length : Int) := by
          rcases hM with ⟨y, -, -⟩ | ⟨y, -, -⟩ | y
          · omega
          · omega
          · exact y
        have hl' : ∃ t ∈ Q.2, t.1 = last ∧ (n0 : Int) ≤ last ∧ t.2.1 = p ∧ t.2.2.1 = b ∧ Opn Q.2 last := by
          rcases hl with ⟨y, -⟩ | ⟨s, y1, y2, y3, y4, y5, y6, -⟩
          · omega
          · exact ⟨s, y1, y2, y3, y4, y5, y6⟩
        obtain ⟨s, y1, y2, y3, y4, y5, y6⟩ := hl'
        have es : t = s := w.inj hto y1 (by omega)
        subst es
        unfold RNt
        rw [c2, hM'.2, gI_eq, y4, y5]
        refine Or.inr ⟨_, hhd, rfl, by simp only []; omega, rfl, rfl, fun t' ht' z1 z2 z3 => ?_⟩
        simp only []
        rcases m2 t' ht' with q | ⟨q, -⟩ | ⟨q, -⟩
        · have := y6 t' q (by omega); omega
        · omega
        · omega
      · have h5 := rn t hto hn c2
        unfold RNt at h5 ⊢
        rw [k13 152 t.1 (by decide) (by decide) (by omega) (by omega) (by omega) (by omega)]
        refine h5.ext m1 (fun s hs => ?_)
        rcases m2 s hs with q | ⟨q1, q2, q3⟩ | ⟨q1, q2⟩
        · exact Or.inl q
        · refine Or.inr (fun z1 z2 z3 => ?_)
          rcases hl with ⟨y, y'⟩ | ⟨s', y1, y2, y3, y4, y5, y6, -⟩
          · have := j1 t (y' t hto); omega
          · have hlt : t.1 < last := by
              by_cases z : last < t.1
              · have := y6 t hto z; omega
              · omega
            have := h5.some' y1 (by omega) ⟨by omega, by omega, by omega⟩
            exact ⟨this.1, by omega⟩
        · refine Or.inr (fun z1 z2 z3 => ?_)
          omega
  · -- the first in the block
    have h5 := fs hp
    rcases hM with ⟨-, y, -⟩ | ⟨y0, -, y⟩ | ⟨y0, y⟩
    · omega
    · rw [y, gI_eq]
      have hall : ∀ t ∈ Q.2, t ∈ l0 := by
        rcases hl with ⟨-, z⟩ | ⟨s, z1, z2, z3, -⟩
        · exact z
        · omega
      refine Or.inr ⟨_, hhd, rfl, by simp only []; omega, rfl, rfl, fun t' ht' z1 z2 z3 => ?_⟩
      simp only []
      rcases fit t' ht' z2 with q | ⟨q, -⟩
      · exact absurd ⟨z1, z2, z3⟩ (j2 t' (hall t' q))
      · omega
    · have e5 : gI M3 o (100 + p) = gI M o (100 + p) := by
        rw [y, gI_ne _ _ _ _ (by omega)]
        exact k12 o p (by omega) (by omega) hp (by omega)
      rw [e5]
      refine h5.ext m1 (fun s hs => ?_)
      by_cases z : s ∈ Q.2
      · exact Or.inl z
      · refine Or.inr (fun z1 z2 z3 => ?_)
        rcases fit s hs z2 with q | ⟨q, -⟩
        · exact absurd q z
        · rcases hl with ⟨z, -⟩ | ⟨s', z1', z2', z3', z4', z5', -⟩
          · exact absurd z y0
          · have := h5.some' z1' (by omega) ⟨by omega, z4', z5'⟩
            have := old s' z1'
            exact ⟨by omega, by omega⟩
  · rcases m2 t ht with q | ⟨q1, q2, q3⟩ | ⟨q1, q2⟩
    · rcases s2 t q with y | y
      · exact Or.inl y
      · exact Or.inr y
    · exact Or.inr ⟨by omega, Or.inl ⟨q2, q3⟩⟩
    · exact Or.inr ⟨by omega, Or.inr (by omega)⟩
  · rw [k23 152 _ (by omega) (by omega) (by omega)]; exact e2

/-! the other reader's statements: what its rows hold -/
theorem FiS.ext {l l' : List Stm} {p b fr v : Int} (h : FiS l p b fr v) (h1 : ∀ t ∈ l, t ∈ l') (h2 : ∀ t ∈ l', t ∈ l ∨ (fr ≤ t.1 → t.2.1 = p → t.2.2.1 = b → ¬ v = -1 ∧ v ≤ t.1)) : FiS l' p b fr v := by
  rcases h with ⟨e, h⟩ | ⟨s, s1, s2, s3, s4, s5, s6⟩
  · refine Or.inl ⟨e, fun t ht z => ?_⟩
    rcases h2 t ht with q | q
    · exact h t q z
    · exact (q z.1 z.2.1 z.2.2).1 e
  · refine Or.inr ⟨s, h1 s s1, s2, s3, s4, s5, fun t ht q1 q2 q3 => ?_⟩
    rcases h2 t ht with q | q
    · exact s6 t q q1 q2 q3
    · rw [s2]; exact (q q1 q2 q3).2
/-- with one that fits, the first isn't none -/
theorem FiS.some' {l : List Stm} {p b fr v : Int} (h : FiS l p b fr v) {t : Stm} (ht : t ∈ l) (h0 : 0 ≤ fr) (q : fr ≤ t.1 ∧ t.2.1 = p ∧ t.2.2.1 = b) : ¬ v = -1 ∧ v ≤ t.1 := by
  rcases h with ⟨e, h⟩ | ⟨s, s1, s2, s3, s4, s5, s6⟩
  · exact absurd q (h t ht)
  · have := s6 t ht q.1 q.2.1 q.2.2
    exact ⟨by omega, by omega⟩
theorem SrL.app : ∀ {l D : List Stm}, SrL (l ++ D) → ∀ t ∈ l, ∀ t' ∈ D, t.1 < t'.1 := by
  intro l
  induction l with
  | nil => intro D _ t ht; exact absurd ht (by simp)
  | cons s l ih =>
    intro D h t ht t' ht'
    rcases List.mem_cons.mp ht with e | e
    · rw [e]; exact h.1 t' (List.mem_append_right _ ht')
    · exact ih h.2 t e t' ht'
def qS (k a i : Nat) : Bool := qE k a i || (a == 142 && (i == 19 || i == 21))
theorem qE_S {k a i : Nat} (h : qE k a i = true) : qS k a i = true := by simp only [qS, h, Bool.true_or]
theorem qS_mono {k k' a i : Nat} (hk : k' ≤ k) (h : qS k a i = true) : qS k' a i = true := by
  simp only [qS, Bool.or_eq_true] at h ⊢
  exact h.imp_left (qE_mono hk)
theorem q7_S {k a i : Nat} (h : q7 a i = true) : qS k a i = true := qE_S (q7_E h)
/-- all is well so far, between two statements -/
def LQ (L : Int → Int) (N dep : Int) (Q : Qs) (M : pm_M) : Prop := (RSt L N Q.1 M ∧ RW Q.1.2 M ∧ gI M 142 8 = 0 ∧ gI M 142 20 = 0) ∧ (Q.1.1.2.2.2.2 = 0 ∧ SK N Q.1.1 ∧ (Q.1.2.length : Int) ≤ Q.1.1.2.1 ∧ WD (ub L) Q.1.1) ∧ gI M 142 19 = (Q.2.length : Int) ∧ gI M 142 21 = dep
/-- an expression under a statement -/
def XBh (M : pm_M) (k e : Int) : Prop := gI M 147 (100 + (k + 1)) = k ∧ ∃ g, XB M g (k + 1) e
def RDt (M : pm_M) (l : List Stm) (t : Stm) : Prop := gI M 147 (100 + t.1) = t.2.1 ∧ gI M 148 (100 + t.1) = t.1 + 1 ∧ FiS l t.1 0 (t.1 + 1) (gI M 150 (100 + t.1)) ∧ FiS l t.1 1 (t.1 + 1) (gI M 151 (100 + t.1)) ∧ XBh M t.1 t.2.2.2
def RNt (M : pm_M) (l : List Stm) (t : Stm) : Prop := FiS l t.2.1 t.2.2.1 (t.1 + 1) (gI M 152 (100 + t.1))
/-- a fault's end: told, or its token waits -/
def OB (L : Int → Int) (N : Int) (s : Sc) (M : pm_M) (K : Int → pm_M → Prop) : Prop := (∀ M', Fr (qS 0) M M' → gI M' 142 8 = s.2.2.2.2 → K 0 M') ∧ (∀ M', Fr (qS 0) M M' → TpR L N M' → Pnd M' s.2.1 → s.2.2.2.2 = 8 * s.2.1 + 1 → K 1 M')
theorem LQ.gp {L : Int → Int} {N dep : Int} {Q : Qs} {M : pm_M} (h : LQ L N dep Q M) : GP N Q.1 := ⟨h.2.1.2.1, by rw [if_pos h.2.1.1]; exact h.2.1.2.2.1⟩
/-- in a wrong token no statement begins -/
theorem pnd_stm {L : Int → Int} {N pl p : Int} {M : pm_M} {K : Int → pm_M → Prop} {c h : Nat} (hh : 151 ≤ h) (hc : 3 ≤ c) (hT : TpR L N M) (hP : Pnd M pl) (hK : K 0 (upI M 142 8 (8 * pl + 1))) : k12_statement c h p M K := by
  have hne : ¬ (4 : Int) = 1 := by decide
  apply k12_statement_r hh
  refine ⟨1, c - 1, by omega, rwordN_r (Nat.le_refl _) hP.1 hne ?_⟩
  refine ⟨1, c - 2, by omega, rwordN_r (Nat.le_refl _) hP.1 hne ?_⟩
  refine ⟨1, c - 3, by omega, rwordN_r (Nat.le_refl _) hP.1 hne ?_⟩
  refine pnd_var hT hP ?_
  rw [if_pos rfl, if_pos rfl, if_pos rfl, if_pos rfl, hP.2.1, if_pos rfl, hP.2.2.1, bad_w hP.2.2.2 1 (by decide)]
  exact hK
/-- a row that a fault ended -/
theorem row_end {c h o : Nat} {l1 l3 l4 : Int} {M : pm_M} {K : Int → pm_M → Prop} (ho : o = 150 ∨ o = 151) (hh : 151 ≤ h) (hK : K 0 M) : k12_row_6 c h o l1 l3 l4 0 M K := by
  apply k12_row_6_r ho hh
  rw [if_pos rfl]
  exact ⟨Or.inl rfl, hK⟩
theorem wrd3 : (pm_txt 3).length = 2 ∧ (pm_txt 4).length = 5 ∧ (pm_txt 5).length = 6 ∧ (pm_txt 6).length = 4 := by decide
/-- which words stand here -/
theorem knd_w {u : Int → Int} {s : Sc} : (knd u s = 0 → ¬ wdb u s (pm_txt 3) = true ∧ ¬ wdb u s (pm_txt 4) = true ∧ ¬ wdb u s (pm_txt 5) = true ∧ ¬ vr u s = -1) ∧ (knd u s = 1 → wdb u s (pm_txt 3) = true ∧ ¬ wdb u s (pm_txt 4) = true ∧ ¬ wdb u s (pm_txt 5) = true ∧ vr u s = -1) ∧ (knd u s = 2 → ¬ wdb u s (pm_txt 3) = true ∧ wdb u s (pm_txt 4) = true ∧ ¬ wdb u s (pm_txt 5) = true ∧ vr u s = -1) ∧ (knd u s = 3 → ¬ wdb u s (pm_txt 3) = true ∧ ¬ wdb u s (pm_txt 4) = true ∧ wdb u s (pm_txt 5) = true ∧ vr u s = -1) ∧ (knd u s = -1 → ¬ wdb u s (pm_txt 3) = true ∧ ¬ wdb u s (pm_txt 4) = true ∧ ¬ wdb u s (pm_txt 5) = true ∧ vr u s = -1) := by
  obtain ⟨w1, w2, w3, -⟩ := wrd3
  have l3 : wdb u s (pm_txt 3) = true → s.1 - s.2.1 = 2 := fun h => by have := (wdb_iff.mp h).2.1; omega
  have l4 : wdb u s (pm_txt 4) = true → s.1 - s.2.1 = 5 := fun h => by have := (wdb_iff.mp h).2.1; omega
  have l5 : wdb u s (pm_txt 5) = true → s.1 - s.2.1 = 6 := fun h => by have := (wdb_iff.mp h).2.1; omega
  have lv : ¬ vr u s = -1 → s.1 - s.2.1 = 1 := fun h => Decidable.byContradiction (fun z => h (by unfold vr; rw [if_neg (fun y => z y.2)]))
  by_cases a : vr u s = -1
  · by_cases b : wdb u s (pm_txt 3) = true
    · have e : knd u s = 1 := by unfold knd; rw [if_neg (fun z => z a), if_pos b]
      have n4 : ¬ wdb u s (pm_txt 4) = true := fun z => by have := l3 b; have := l4 z; omega
      have n5 : ¬ wdb u s (pm_txt 5) = true := fun z => by have := l3 b; have := l5 z; omega
      rw [e]
      exact ⟨fun z => absurd z (by decide), fun _ => ⟨b, n4, n5, a⟩, fun z => absurd z (by decide), fun z => absurd z (by decide), fun z => absurd z (by decide)⟩
    by_cases c : wdb u s (pm_txt 4) = true
    · have e : knd u s = 2 := by unfold knd; rw [if_neg (fun z => z a), if_neg b, if_pos c]
      have n5 : ¬ wdb u s (pm_txt 5) = true := fun z => by have := l4 c; have := l5 z; omega
      rw [e]
      exact ⟨fun z => absurd z (by decide), fun z => absurd z (by decide), fun _ => ⟨b, c, n5, a⟩, fun z => absurd z (by decide), fun z => absurd z (by decide)⟩
    by_cases d : wdb u s (pm_txt 5) = true
    · have e : knd u s = 3 := by unfold knd; rw [if_neg (fun z => z a), if_neg b, if_neg c, if_pos d]
      rw [e]
      exact ⟨fun z => absurd z (by decide), fun z => absurd z (by decide), fun z => absurd z (by decide), fun _ => ⟨b, c, d, a⟩, fun z => absurd z (by decide)⟩
    · have e : knd u s = -1 := by unfold knd; rw [if_neg (fun z => z a), if_neg b, if_neg c, if_neg d]
      rw [e]
      exact ⟨fun z => absurd z (by decide), fun z => absurd z (by decide), fun z => absurd z (by decide), fun z => absurd z (by decide), fun _ => ⟨b, c, d, a⟩⟩
  · have e : knd u s = 0 := knd_v.mpr a
    have n3 : ¬ wdb u s (pm_txt 3) = true := fun z => by have := lv a; have := l3 z; omega
    have n4 : ¬ wdb u s (pm_txt 4) = true := fun z => by have := lv a; have := l4 z; omega
    have n5 : ¬ wdb u s (pm_txt 5) = true := fun z => by have := lv a; have := l5 z; omega
    rw [e]
    exact ⟨fun _ => ⟨n3, n4, n5, a⟩, fun z => absurd z (by decide), fun z => absurd z (by decide), fun z => absurd z (by decide), fun z => absurd z (by decide)⟩
theorem rw3 {c : Nat} {L : Int → Int} {n : Int} {s : Sc} {M : pm_M} {K : Int → pm_M → Prop} (hc : 1 ≤ c) (hT : TpR L n M) (hr : Hr s M) (hk : SK n s) (hD : WD (ub L) s) (hK : K (if wdb (ub L) s (pm_txt 3) = true then 1 else 0) M) : k12_isWord c 105 102 0 0 0 0 M K := rword_r (w := pm_txt 3) hc hT hr hk hD (by decide) (by decide) (by decide) hK
theorem rw4 {c : Nat} {L : Int → Int} {n : Int} {s : Sc} {M : pm_M} {K : Int → pm_M → Prop} (hc : 1 ≤ c) (hT : TpR L n M) (hr : Hr s M) (hk : SK n s) (hD : WD (ub L) s) (hK : K (if wdb (ub L) s (pm_txt 4) = true then 1 else 0) M) : k12_isWord c 119 104 105 108 101 0 M K := rword_r (w := pm_txt 4) hc hT hr hk hD (by decide) (by decide) (by decide) hK
theorem rw5 {c : Nat} {L : Int → Int} {n : Int} {s : Sc} {M : pm_M} {K : Int → pm_M → Prop} (hc : 1 ≤ c) (hT : TpR L n M) (hr : Hr s M) (hk : SK n s) (hD : WD (ub L) s) (hK : K (if wdb (ub L) s (pm_txt 5) = true then 1 else 0) M) : k12_isWord c 114 101 116 117 114 110 M K := rword_r (w := pm_txt 5) hc hT hr hk hD (by decide) (by decide) (by decide) hK
theorem rw6 {c : Nat} {L : Int → Int} {n : Int} {s : Sc} {M : pm_M} {K : Int → pm_M → Prop} (hc : 1 ≤ c) (hT : TpR L n M) (hr : Hr s M) (hk : SK n s) (hD : WD (ub L) s) (hK : K (if wdb (ub L) s (pm_txt 6) = true then 1 else 0) M) : k12_isWord c 101 108 115 101 0 0 M K := rword_r (w := pm_txt 6) hc hT hr hk hD (by decide) (by decide) (by decide) hK

/-! tests: of numbers and lists alone; the first reader -/
abbrev TRow : Type := Int × Int × Int × Int × Int
/-- a number: the token behind its sign; behind it; what it is -/
def tnG (s : Sc) : Prop := s.2.2.1 = 4 ∧ s.2.2.2.1 = 1
def tnA (u : Int → Int) (N : Int) (s : Sc) : Sc := if s.2.2.1 = 4 ∧ s.2.2.2.1 = 1 then adv u N s else s
def tnS (u : Int → Int) (N : Int) (s : Sc) : Sc := adv u N (if (tnA u N s).2.2.1 = 3 then tnA u N s else refu (tnA u N s) 1)
def tnV (u : Int → Int) (N : Int) (s : Sc) : Int := if s.2.2.1 = 4 ∧ s.2.2.2.1 = 1 then w32 (-(tnA u N s).2.2.2.1) else (tnA u N s).2.2.2.1
def txW (u : Int → Int) (N : Int) (w : List Int) (s : Sc) : Sc := adv u N (if wdb u s w = true then s else refu s 1)
/-- a line's tokens one after another -/
def t1 (u : Int → Int) (N : Int) (s : Sc) : Sc := txW u N (pm_txt 7) s
def t2 (u : Int → Int) (N : Int) (s : Sc) : Sc := tnS u N (t1 u N s)
def t3 (u : Int → Int) (N : Int) (s : Sc) : Sc := tnS u N (t2 u N s)
def t4 (u : Int → Int) (N : Int) (s : Sc) : Sc := tnS u N (t3 u N s)
def t5 (u : Int → Int) (N : Int) (s : Sc) : Sc := txW u N (pm_txt 8) (t4 u N s)
def t6 (u : Int → Int) (N : Int) (s : Sc) : Sc := tnS u N (t5 u N s)
def t7 (u : Int → Int) (N : Int) (s : Sc) : Sc := if wdb u (t6 u N s) (pm_txt 9) = true then adv u N (t6 u N s) else t6 u N s
def tlS (u : Int → Int) (N : Int) (k : Nat) (s : Sc) : Sc := if wdb u s (pm_txt 7) = true ∧ 16 ≤ k then refu s 2 else t7 u N s
def tlR (u : Int → Int) (N : Int) (s : Sc) : TRow := (tnV u N (t1 u N s), tnV u N (t2 u N s), tnV u N (t3 u N s), tnV u N (t5 u N s), if wdb u (t6 u N s) (pm_txt 9) = true then 1 else 0)
def tlF (u : Int → Int) (N : Int) : Nat → Sc × List TRow → Sc × List TRow
  | 0, S => S
  | n + 1, S => if S.1.2.2.1 = 5 ∧ S.1.2.2.2.1 = 59 then tlF u N n (tlS u N S.2.length (adv u N S.1), S.2 ++ [tlR u N (adv u N S.1)]) else S
def tsL (u : Int → Int) (N : Int) : Sc × List TRow := tlF u N 600 (tlS u N 0 (adv u N s0), [tlR u N (adv u N s0)])
def tsS (u : Int → Int) (N : Int) : Sc := if (tsL u N).1.2.2.1 = 0 then (tsL u N).1 else refu (tsL u N).1 1
theorem SK.tnA {u : Int → Int} {N : Int} {s : Sc} (h : SK N s) : SK N (tnA u N s) := by
  unfold Jvm.Pilot.CProgramMenderLaw_law_r5342_e81779.tnA; split
  · exact h.advk
  · exact h
theorem SK.tnS {u : Int → Int} {N : Int} {s : Sc} (h : SK N s) : SK N (tnS u N s) := by
  unfold Jvm.Pilot.CProgramMenderLaw_law_r5342_e81779.tnS; split
  · exact h.tnA.advk
  · exact (h.tnA.refuk (by decide)).advk
theorem SK.txW {u : Int → Int} {N : Int} {w : List Int} {s : Sc} (h : SK N s) : SK N (txW u N w s) := by
  unfold Jvm.Pilot.CProgramMenderLaw_law_r5342_e81779.txW; split
  · exact h.advk
  · exact (h.refuk (by decide)).advk
theorem SK.t7 {u : Int → Int} {N : Int} {s : Sc} (h : SK N s) : SK N (t7 u N s) := by
  have h6 : SK N (t6 u N s) := h.txW.tnS.tnS.tnS.txW.tnS
  unfold Jvm.Pilot.CProgramMenderLaw_law_r5342_e81779.t7; split
  · exact h6.advk
  · exact h6
theorem SK.tlS {u : Int → Int} {N : Int} {k : Nat} {s : Sc} (h : SK N s) : SK N (tlS u N k s) := by
  unfold Jvm.Pilot.CProgramMenderLaw_law_r5342_e81779.tlS; split
  · exact h.refuk (by decide)
  · exact h.t7
/-- dead: nothing moves -/
theorem dd_A {u : Int → Int} {N : Int} {s : Sc} (h : ¬ s.2.2.2.2 = 0) (h1 : s.2.2.1 = 1) : tnA u N s = s := by unfold tnA; rw [if_neg (fun z => by omega)]
theorem dd_S {u : Int → Int} {N : Int} {s : Sc} (h : ¬ s.2.2.2.2 = 0) (h1 : s.2.2.1 = 1) : tnS u N s = s := by
  unfold tnS; rw [dd_A h h1, if_neg (by omega), refu_dead h, adv_dead h]
theorem dd_W {u : Int → Int} {N : Int} {w : List Int} {s : Sc} (h : ¬ s.2.2.2.2 = 0) (h1 : s.2.2.1 = 1) : txW u N w s = s := by
  unfold txW; rw [if_neg (fun z => by have := (wdb_iff.mp z).1; omega), refu_dead h, adv_dead h]
/-- a live end has a live beginning -/
theorem al_S {u : Int → Int} {N : Int} {s : Sc} (hS : SK N s) (h : (tnS u N s).2.2.2.2 = 0) : s.2.2.2.2 = 0 := Decidable.byContradiction (fun z => by rw [dd_S z (hS.2.1 z)] at h; exact z h)
theorem al_W {u : Int → Int} {N : Int} {w : List Int} {s : Sc} (hS : SK N s) (h : (txW u N w s).2.2.2.2 = 0) : s.2.2.2.2 = 0 := Decidable.byContradiction (fun z => by rw [dd_W z (hS.2.1 z)] at h; exact z h)
theorem al_7 {u : Int → Int} {N : Int} {s : Sc} (hS : SK N s) (h : (t7 u N s).2.2.2.2 = 0) : (t6 u N s).2.2.2.2 = 0 := Decidable.byContradiction (fun z => by
  unfold t7 at h
  have h6 : SK N (t6 u N s) := hS.txW.tnS.tnS.tnS.txW.tnS
  rw [if_neg (fun y => by have := (wdb_iff.mp y).1; have := h6.2.1 z; omega)] at h
  exact z h)
/-- a live number is small -/
theorem tnV_rng {u : Int → Int} {N : Int} {s : Sc} (hS : SK N s) (h : (tnS u N s).2.2.2.2 = 0) : (tnA u N s).2.2.1 = 3 ∧ -999 ≤ tnV u N s ∧ tnV u N s ≤ 999 := by
  have h0 := al_S hS h
  have hA : SK N (tnA u N s) := hS.tnA
  have hA0 : (tnA u N s).2.2.2.2 = 0 := Decidable.byContradiction (fun z => by
    unfold tnS at h
    rw [if_neg (by have := hA.2.1 z; omega), refu_dead z, adv_dead z] at h
    exact z h)
  have h3 : (tnA u N s).2.2.1 = 3 := Decidable.byContradiction (fun z => by
    unfold tnS at h
    have rno := refu_no hA hA0 (k := 1) (by decide)
    rw [if_neg z, adv_dead rno] at h
    exact rno h)
  have hv := hA.2.2.2.1 h3
  refine ⟨h3, ?_⟩
  unfold tnV
  split
  · rw [w32_id (by omega)]; omega
  · omega
theorem tlF_stop {u : Int → Int} {N : Int} {n : Nat} {S : Sc × List TRow} (h : ¬ (S.1.2.2.1 = 5 ∧ S.1.2.2.2.1 = 59)) : tlF u N n S = S := by
  cases n with
  | zero => rfl
  | succ n =>
    show (if S.1.2.2.1 = 5 ∧ S.1.2.2.2.1 = 59 then _ else S) = _
    rw [if_neg h]
theorem tlF_next {u : Int → Int} {N : Int} {n : Nat} {S : Sc × List TRow} (h : S.1.2.2.1 = 5 ∧ S.1.2.2.2.1 = 59) : tlF u N (n + 1) S = tlF u N n (tlS u N S.2.length (adv u N S.1), S.2 ++ [tlR u N (adv u N S.1)]) := by
  show (if S.1.2.2.1 = 5 ∧ S.1.2.2.2.1 = 59 then _ else S) = _
  rw [if_pos h]
/-- a live line: its word stands there, there is room for it -/
theorem tlS_al {u : Int → Int} {N : Int} {k : Nat} {s : Sc} (hS : SK N s) (h : (tlS u N k s).2.2.2.2 = 0) : s.2.2.2.2 = 0 ∧ wdb u s (pm_txt 7) = true ∧ k < 16 ∧ tlS u N k s = t7 u N s ∧ (t1 u N s).2.2.2.2 = 0 ∧ (t2 u N s).2.2.2.2 = 0 ∧ (t3 u N s).2.2.2.2 = 0 ∧ (t4 u N s).2.2.2.2 = 0 ∧ (t5 u N s).2.2.2.2 = 0 ∧ (t6 u N s).2.2.2.2 = 0 := by
  by_cases c : wdb u s (pm_txt 7) = true ∧ 16 ≤ k
  · exfalso
    unfold tlS at h
    rw [if_pos c] at h
    by_cases z : s.2.2.2.2 = 0
    · exact refu_no hS z (by decide) h
    · rw [refu_dead z] at h; exact z h
  · have e : tlS u N k s = t7 u N s := by unfold tlS; rw [if_neg c]
    rw [e] at h
    have s1 : SK N (t1 u N s) := hS.txW
    have s2 : SK N (t2 u N s) := s1.tnS
    have s3 : SK N (t3 u N s) := s2.tnS
    have s4 : SK N (t4 u N s) := s3.tnS
    have s5 : SK N (t5 u N s) := s4.txW
    have h6 := al_7 hS h
    have h5 := al_S s5 h6
    have h4 := al_W s4 h5
    have h3 := al_S s3 h4
    have h2 := al_S s2 h3
    have h1 := al_S s1 h2
    have h0 := al_W hS h1
    have hw : wdb u s (pm_txt 7) = true := Decidable.byContradiction (fun z => by
      have h1' := h1
      unfold t1 txW at h1'
      have rno := refu_no hS h0 (k := 1) (by decide)
      rw [if_neg z, adv_dead rno] at h1'
      exact rno h1')
    exact ⟨h0, hw, Decidable.byContradiction (fun z => c ⟨hw, by omega⟩), e, h1, h2, h3, h4, h5, h6⟩
def TR (T : TRow) : Prop := (-999 ≤ T.1 ∧ T.1 ≤ 999) ∧ (-999 ≤ T.2.1 ∧ T.2.1 ≤ 999) ∧ (-999 ≤ T.2.2.1 ∧ T.2.2.1 ≤ 999) ∧ (-999 ≤ T.2.2.2.1 ∧ T.2.2.2.1 ≤ 999) ∧ (T.2.2.2.2 = 0 ∨ T.2.2.2.2 = 1)
theorem tlR_ok {u : Int → Int} {N : Int} {k : Nat} {s : Sc} (hS : SK N s) (h : (tlS u N k s).2.2.2.2 = 0) : TR (tlR u N s) := by
  obtain ⟨h0, -, -, -, h1, h2, h3, h4, h5, h6⟩ := tlS_al hS h
  have s1 : SK N (t1 u N s) := hS.txW
  have s2 : SK N (t2 u N s) := s1.tnS
  have s3 : SK N (t3 u N s) := s2.tnS
  have s4 : SK N (t4 u N s) := s3.tnS
  have s5 : SK N (t5 u N s) := s4.txW
  refine ⟨(tnV_rng s1 h2).2, (tnV_rng s2 h3).2, (tnV_rng s3 h4).2, (tnV_rng s5 h6).2, ?_⟩
  unfold tlR
  simp only []
  split
  · exact Or.inr rfl
  · exact Or.inl rfl

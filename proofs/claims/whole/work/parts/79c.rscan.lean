-- needs 30 31 32 33a 33b 33c 33d 33e 33f 33g 33h 33i 33j 40 41 42 43 44 45 46 50 51 52 53 54 79a
/-! the reference goes on to the next token -/
def tkR (t : Int) : Int := if t = 0 then 0 else if t = 1 then 4 else if t = 2 then 1 else if t = 3 then 2 else 3
def vcd (c : Int) : Int := if c = 0 then 43 else if c = 1 then 45 else if c = 2 then 42 else if c = 3 then 47 else if c = 4 then 37 else if c = 5 then 60 else if c = 6 then 300 else if c = 7 then 302 else if c = 8 then 303 else if c = 9 then 62 else 301
def Hr (s : Sc) (M : pm_M) : Prop := gI M 142 5 = s.1 ∧ gI M 142 4 = s.2.1 ∧ gI M 142 6 = tkR s.2.2.1 ∧ (s.2.2.1 = 3 → gI M 142 7 = s.2.2.2.1) ∧ (s.2.2.1 = 4 → gI M 142 7 = vcd s.2.2.2.1) ∧ (s.2.2.1 = 5 → gI M 142 7 = s.2.2.2.1)
def TpR (L : Int → Int) (N : Int) (M : pm_M) : Prop := gI M 142 3 = N ∧ (0 ≤ N ∧ N ≤ 600) ∧ ∀ i, 0 ≤ i → i < 600 → gI M 143 i = L i ∧ -128 ≤ L i ∧ L i ≤ 127
def q7 (a i : Nat) : Bool := a == 142 && (4 ≤ i && i ≤ 7)
theorem TpR.fr {L : Int → Int} {N : Int} {M M' : pm_M} {p : Nat → Nat → Bool} (h : TpR L N M) (f : Fr p M M') (h0 : p 142 3 = false) (h1 : ∀ i, p 143 i = false) : TpR L N M' := ⟨by rw [f.g h0]; exact h.1, h.2.1, fun i i0 i1 => by rw [f.g (h1 _)]; exact h.2.2 i i0 i1⟩
theorem isSign_r {c : Int} {M : pm_M} {K : Int → pm_M → Prop} (h1 : (¬ sal c = -1 ∨ (c = 61 ∨ c = 40 ∨ c = 41 ∨ c = 123 ∨ c = 125 ∨ c = 59)) → K 1 M) (h0 : ¬ (¬ sal c = -1 ∨ (c = 61 ∨ c = 40 ∨ c = 41 ∨ c = 123 ∨ c = 125 ∨ c = 59)) → K 0 M) : k12_isSign c M K := by
  apply k12_isSign_r
  by_cases a1 : c = 60
  · rw [if_pos a1]; exact h1 (Or.inl (by rw [a1]; decide))
  rw [if_neg a1]
  by_cases a2 : c = 62
  · rw [if_pos a2]; exact h1 (Or.inl (by rw [a2]; decide))
  rw [if_neg a2]
  by_cases a3 : c = 61
  · rw [if_pos a3]; exact h1 (Or.inr (by omega))
  rw [if_neg a3]
  by_cases a4 : c = 43
  · rw [if_pos a4]; exact h1 (Or.inl (by rw [a4]; decide))
  rw [if_neg a4]
  by_cases a5 : c = 45
  · rw [if_pos a5]; exact h1 (Or.inl (by rw [a5]; decide))
  rw [if_neg a5]
  by_cases a6 : c = 42
  · rw [if_pos a6]; exact h1 (Or.inl (by rw [a6]; decide))
  rw [if_neg a6]
  by_cases a7 : c = 47
  · rw [if_pos a7]; exact h1 (Or.inl (by rw [a7]; decide))
  rw [if_neg a7]
  by_cases a8 : c = 37
  · rw [if_pos a8]; exact h1 (Or.inl (by rw [a8]; decide))
  rw [if_neg a8]
  have hs : sal c = -1 := by unfold sal; rw [if_neg a1, if_neg a2, if_neg a4, if_neg a5, if_neg a6, if_neg a7, if_neg a8]
  by_cases b1 : c = 40
  · rw [if_pos b1]; exact h1 (Or.inr (by omega))
  rw [if_neg b1]
  by_cases b2 : c = 41
  · rw [if_pos b2]; exact h1 (Or.inr (by omega))
  rw [if_neg b2]
  by_cases b3 : c = 123
  · rw [if_pos b3]; exact h1 (Or.inr (by omega))
  rw [if_neg b3]
  by_cases b4 : c = 125
  · rw [if_pos b4]; exact h1 (Or.inr (by omega))
  rw [if_neg b4]
  by_cases b5 : c = 59
  · rw [if_pos b5]; exact h1 (Or.inr (by omega))
  rw [if_neg b5]
  exact h0 (fun z => z.elim (fun y => y hs) (by omega))
theorem vcd_sal {c : Int} (h : ¬ sal c = -1) : vcd (sal c) = c := by
  by_cases a1 : c = 60
  · subst a1; decide
  by_cases a2 : c = 62
  · subst a2; decide
  by_cases a3 : c = 43
  · subst a3; decide
  by_cases a4 : c = 45
  · subst a4; decide
  by_cases a5 : c = 42
  · subst a5; decide
  by_cases a6 : c = 47
  · subst a6; decide
  by_cases a7 : c = 37
  · subst a7; decide
  exact absurd (by unfold sal; rw [if_neg a1, if_neg a2, if_neg a3, if_neg a4, if_neg a5, if_neg a6, if_neg a7]) h
theorem go0_r {L : Int → Int} {N p : Int} {M : pm_M} {K : pm_M → Prop} (hT : TpR L N M) (hp : 0 ≤ p ∧ p ≤ N) (hns : ¬ (p < N ∧ (ub L p = 32 ∨ ub L p = 10))) (e5 : gI M 142 5 = p)
    (hq : ∀ M' f, Fr q7 M M' → Hr ((tok (ub L) N p).2.2, p, (tok (ub L) N p).1, (tok (ub L) N p).2.1, f) M' → K M') : k12_go_0 M K := by
  obtain ⟨t1, ⟨n0, n6⟩, t3⟩ := hT
  apply k12_go_0_r
  rw [e5, t1]
  by_cases hN : p < N
  case neg =>
    rw [if_neg hN]
    have ht : tok (ub L) N p = (0, 0, p) := by unfold tok; rw [if_pos (by omega)]
    rw [ht] at hq
    refine hq _ 0 ((Fr.rf.up _ rfl).up _ rfl) ⟨?_, ?_, ?_, fun z => absurd z (by show ¬ (0 : Int) = 3; decide), fun z => absurd z (by show ¬ (0 : Int) = 4; decide), fun z => absurd z (by show ¬ (0 : Int) = 5; decide)⟩
    · rw [gI_nf _ _ (by decide), gI_nf _ _ (by decide)]; exact e5
    · rw [gI_nf _ _ (by decide), gI_eq]
    · rw [gI_eq]; rfl
  rw [if_pos hN]
  refine ⟨⟨hp.1, by omega⟩, ?_⟩
  obtain ⟨tL, tb⟩ := t3 p hp.1 (by omega)
  have hu : ub L p = pm_iand (L p) 255 := rfl
  have hs := ub_s tb
  rw [tL]
  rw [← hu] at hs ⊢
  rw [if_neg (fun z => hns ⟨hN, Or.inl z⟩), if_neg (fun z => hns ⟨hN, Or.inr z⟩), if_neg (by omega)]
  -- a sign by itself
  have single : tok (ub L) N p = (if ¬ sal (ub L p) = -1 then (4, sal (ub L p), p + 1) else if ub L p = 61 ∨ ub L p = 40 ∨ ub L p = 41 ∨ ub L p = 123 ∨ ub L p = 125 ∨ ub L p = 59 then (5, ub L p, p + 1) else (1, ub L p, p + 1)) → k12_isSign (ub L p) (upI (upI M 142 4 p) 142 5 (w32 (p + 1))) (fun r16 M15 => (if r16 = 0 then K (upI (upI M15 142 6 4) 142 7 (ub L p)) else K (upI (upI M15 142 6 3) 142 7 (ub L p)))) := by
    intro ht
    rw [w32_id (show -2147483648 ≤ p + 1 ∧ p + 1 < 2147483648 by omega)]
    refine isSign_r ?_ ?_
    · intro h
      rw [if_neg (by decide)]
      by_cases ha : sal (ub L p) = -1
      · rw [if_neg (fun z => z ha), if_pos (h.resolve_left (fun z => z ha))] at ht
        rw [ht] at hq
        refine hq _ 0 ((((Fr.rf.up _ rfl).up _ rfl).up _ rfl).up _ rfl) ⟨?_, ?_, ?_, fun z => absurd z (by show ¬ (5 : Int) = 3; decide), fun z => absurd z (by show ¬ (5 : Int) = 4; decide), fun _ => gI_eq _ _ _ _⟩
        · rw [gI_nf _ _ (by decide), gI_nf _ _ (by decide), gI_eq]
        · rw [gI_nf _ _ (by decide), gI_nf _ _ (by decide), gI_nf _ _ (by decide), gI_eq]
        · rw [gI_nf _ _ (by decide), gI_eq]; rfl
      · rw [if_pos ha] at ht
        rw [ht] at hq
        refine hq _ 0 ((((Fr.rf.up _ rfl).up _ rfl).up _ rfl).up _ rfl) ⟨?_, ?_, ?_, fun z => absurd z (by show ¬ (4 : Int) = 3; decide), fun _ => ?_, fun z => absurd z (by show ¬ (4 : Int) = 5; decide)⟩
        · rw [gI_nf _ _ (by decide), gI_nf _ _ (by decide), gI_eq]
        · rw [gI_nf _ _ (by decide), gI_nf _ _ (by decide), gI_nf _ _ (by decide), gI_eq]
        · rw [gI_nf _ _ (by decide), gI_eq]; rfl
        · rw [gI_eq]; exact (vcd_sal ha).symm
    · intro h
      rw [if_pos rfl]
      rw [if_neg (fun z => h (Or.inl z)), if_neg (fun z => h (Or.inr z))] at ht
      rw [ht] at hq
      refine hq _ 0 ((((Fr.rf.up _ rfl).up _ rfl).up _ rfl).up _ rfl) ⟨?_, ?_, ?_, fun z => absurd z (by show ¬ (1 : Int) = 3; decide), fun z => absurd z (by show ¬ (1 : Int) = 4; decide), fun z => absurd z (by show ¬ (1 : Int) = 5; decide)⟩
      · rw [gI_nf _ _ (by decide), gI_nf _ _ (by decide), gI_eq]
      · rw [gI_nf _ _ (by decide), gI_nf _ _ (by decide), gI_nf _ _ (by decide), gI_eq]
      · rw [gI_nf _ _ (by decide), gI_eq]; rfl
  have double : ∀ j v, sbe (ub L p) = j → vcd j = v → p + 1 < N → ub L (p + 1) = 61 → ¬ j = -1 → tok (ub L) N p = tsg (ub L) N p → K (upI (upI (upI (upI M 142 4 p) 142 5 (w32 (p + 2))) 142 6 3) 142 7 v) := by
    intro j v hj hv hN1 h61 hne ht
    rw [w32_id (show -2147483648 ≤ p + 2 ∧ p + 2 < 2147483648 by omega)]
    unfold tsg at ht
    rw [hj, if_pos ⟨hN1, h61, hne⟩] at ht
    rw [ht] at hq
    refine hq _ 0 ((((Fr.rf.up _ rfl).up _ rfl).up _ rfl).up _ rfl) ⟨?_, ?_, ?_, fun z => absurd z (by show ¬ (4 : Int) = 3; decide), fun _ => ?_, fun z => absurd z (by show ¬ (4 : Int) = 5; decide)⟩
    · rw [gI_nf _ _ (by decide), gI_nf _ _ (by decide), gI_eq]
    · rw [gI_nf _ _ (by decide), gI_nf _ _ (by decide), gI_nf _ _ (by decide), gI_eq]
    · rw [gI_nf _ _ (by decide), gI_eq]; rfl
    · rw [gI_eq]; exact hv.symm
  have blk : tok (ub L) N p = tsg (ub L) N p → (if w32 (p + 1) < N then ((0 ≤ w32 (p + 1) ∧ w32 (p + 1) < 600) ∧ (if pm_iand (gI M 143 (w32 (p + 1))) 255 = 61 then (if ub L p = 60 then K (upI (upI (upI (upI M 142 4 p) 142 5 (w32 (p + 2))) 142 6 3) 142 7 300) else (if ub L p = 62 then K (upI (upI (upI (upI M 142 4 p) 142 5 (w32 (p + 2))) 142 6 3) 142 7 301) else (if ub L p = 61 then K (upI (upI (upI (upI M 142 4 p) 142 5 (w32 (p + 2))) 142 6 3) 142 7 302) else (if ub L p = 33 then K (upI (upI (upI (upI M 142 4 p) 142 5 (w32 (p + 2))) 142 6 3) 142 7 303) else k12_isSign (ub L p) (upI (upI M 142 4 p) 142 5 (w32 (p + 1))) (fun r16 M15 => (if r16 = 0 then K (upI (upI M15 142 6 4) 142 7 (ub L p)) else K (upI (upI M15 142 6 3) 142 7 (ub L p)))))))) else k12_isSign (ub L p) (upI (upI M 142 4 p) 142 5 (w32 (p + 1))) (fun r16 M15 => (if r16 = 0 then K (upI (upI M15 142 6 4) 142 7 (ub L p)) else K (upI (upI M15 142 6 3) 142 7 (ub L p)))))) else k12_isSign (ub L p) (upI (upI M 142 4 p) 142 5 (w32 (p + 1))) (fun r16 M15 => (if r16 = 0 then K (upI (upI M15 142 6 4) 142 7 (ub L p)) else K (upI (upI M15 142 6 3) 142 7 (ub L p))))) := by
    intro ht
    have w1 : w32 (p + 1) = p + 1 := w32_id (by omega)
    have alone : ¬ (p + 1 < N ∧ ub L (p + 1) = 61 ∧ ¬ sbe (ub L p) = -1) → k12_isSign (ub L p) (upI (upI M 142 4 p) 142 5 (w32 (p + 1))) (fun r16 M15 => (if r16 = 0 then K (upI (upI M15 142 6 4) 142 7 (ub L p)) else K (upI (upI M15 142 6 3) 142 7 (ub L p)))) := by
      intro hno
      refine single ?_
      rw [ht]; unfold tsg; rw [if_neg hno]
    by_cases hN1 : p + 1 < N
    case neg => rw [w1, if_neg hN1, ← w1]; exact alone (fun z => hN1 z.1)
    rw [if_pos (by rw [w1]; exact hN1)]
    refine ⟨⟨by rw [w1]; omega, by rw [w1]; omega⟩, ?_⟩
    rw [show gI M 143 (w32 (p + 1)) = L (p + 1) by rw [w1]; exact (t3 (p + 1) (by omega) (by omega)).1]
    by_cases e61 : ub L (p + 1) = 61
    case neg => rw [if_neg (show ¬ pm_iand (L (p + 1)) 255 = 61 from e61)]; exact alone (fun z => e61 z.2.1)
    rw [if_pos (show pm_iand (L (p + 1)) 255 = 61 from e61)]
    by_cases a : ub L p = 60
    · rw [if_pos a]; exact double 6 300 (by rw [a]; decide) (by decide) hN1 e61 (by decide) ht
    rw [if_neg a]
    by_cases b : ub L p = 62
    · rw [if_pos b]; exact double 10 301 (by rw [b]; decide) (by decide) hN1 e61 (by decide) ht
    rw [if_neg b]
    by_cases c : ub L p = 61
    · rw [if_pos c]; exact double 7 302 (by rw [c]; decide) (by decide) hN1 e61 (by decide) ht
    rw [if_neg c]
    by_cases d : ub L p = 33
    · rw [if_pos d]; exact double 8 303 (by rw [d]; decide) (by decide) hN1 e61 (by decide) ht
    rw [if_neg d]
    refine alone (fun z => z.2.2 ?_)
    unfold sbe; rw [if_neg d, if_neg a, if_neg c, if_neg b]
  have word : (97 ≤ ub L p ∧ ub L p ≤ 122) → k12_go_79 (upI M 142 4 p) K := by
    intro hw
    have ht : tok (ub L) N p = (2, 0, wx (ub L) N p) := by unfold tok; rw [if_neg (by omega), if_pos hw]
    rw [ht] at hq
    have loop : ∀ (d : Nat) (q : Int) (M2 : pm_M), (N - q).toNat ≤ d → 0 ≤ q → q ≤ N → wx (ub L) N q = wx (ub L) N p → Fr q7 M M2 → gI M2 142 5 = q → gI M2 142 4 = p → k12_go_79 M2 K := by
      intro d
      have done : ∀ (q : Int) (M2 : pm_M), ¬ (q < N ∧ (97 ≤ ub L q ∧ ub L q ≤ 122)) → wx (ub L) N q = wx (ub L) N p → Fr q7 M M2 → gI M2 142 5 = q → gI M2 142 4 = p → K (upI M2 142 6 1) := by
        intro q M2 hno hx f2 y5 y4
        rw [wx_no hno] at hx
        refine hq _ 0 (f2.up _ rfl) ⟨?_, ?_, ?_, fun z => absurd z (by show ¬ (2 : Int) = 3; decide), fun z => absurd z (by show ¬ (2 : Int) = 4; decide), fun z => absurd z (by show ¬ (2 : Int) = 5; decide)⟩
        · rw [gI_nf _ _ (by decide), y5]; exact hx
        · rw [gI_nf _ _ (by decide)]; exact y4
        · rw [gI_eq]; rfl
      induction d with
      | zero =>
        intro q M2 hd q0 qN hx f2 y5 y4
        apply k12_go_79_r
        rw [y5, show gI M2 142 3 = N by rw [f2.g rfl]; exact t1, if_neg (by omega)]
        exact done q M2 (by omega) hx f2 y5 y4
      | succ d ih =>
        intro q M2 hd q0 qN hx f2 y5 y4
        apply k12_go_79_r
        rw [y5, show gI M2 142 3 = N by rw [f2.g rfl]; exact t1]
        by_cases hq' : q < N
        case neg => rw [if_neg hq']; exact done q M2 (by omega) hx f2 y5 y4
        rw [if_pos hq', show gI M2 143 q = L q by rw [f2.g rfl]; exact (t3 q q0 (by omega)).1]
        refine ⟨⟨q0, by omega⟩, ?_⟩
        show (if ub L q < 97 then _ else _)
        by_cases a : ub L q < 97
        · rw [if_pos a]; exact done q M2 (by omega) hx f2 y5 y4
        rw [if_neg a]
        show (if ub L q ≤ 122 then _ else _)
        by_cases b : ub L q ≤ 122
        · rw [if_pos b, w32_id (show -2147483648 ≤ q + 1 ∧ q + 1 < 2147483648 by omega)]
          rw [wx_yes hq' (by omega)] at hx
          exact ih (q + 1) _ (by omega) (by omega) (by omega) hx (f2.up _ rfl) (gI_eq _ _ _ _) (by rw [gI_nf _ _ (by decide)]; exact y4)
        · rw [if_neg b]; exact done q M2 (by omega) hx f2 y5 y4
    exact loop _ p _ (Nat.le_refl _) hp.1 hp.2 rfl (Fr.rf.up _ rfl) (by rw [gI_nf _ _ (by decide)]; exact e5) (gI_eq _ _ _ _)
  have numl : (48 ≤ ub L p ∧ ub L p ≤ 57) → k12_go_134 (upI (upI M 142 4 p) 142 7 0) K := by
    intro hw
    have ht : tok (ub L) N p = (if (nv (ub L) N p p 0).2 - p ≤ 3 then 3 else 1, (nv (ub L) N p p 0).1, (nv (ub L) N p p 0).2) := by unfold tok; rw [if_neg (by omega), if_neg (by omega), if_pos hw]
    rw [ht] at hq
    have loop : ∀ (d : Nat) (q v : Int) (M2 : pm_M), (N - q).toNat ≤ d → p ≤ q → q ≤ N → 0 ≤ v → v < (if q - p = 0 then 1 else if q - p = 1 then 10 else if q - p = 2 then 100 else 1000) → nv (ub L) N p q v = nv (ub L) N p p 0 → Fr q7 M M2 → gI M2 142 5 = q → gI M2 142 4 = p → gI M2 142 7 = v → k12_go_134 M2 K := by
      intro d
      have done : ∀ (q v : Int) (M2 : pm_M), p ≤ q → q ≤ N → ¬ (q < N ∧ (48 ≤ ub L q ∧ ub L q ≤ 57)) → nv (ub L) N p q v = nv (ub L) N p p 0 → Fr q7 M M2 → gI M2 142 5 = q → gI M2 142 4 = p → gI M2 142 7 = v → (if w32 (q - p) < 4 then K (upI M2 142 6 2) else K (upI M2 142 6 4)) := by
        intro q v M2 q0 qN hno hx f2 y5 y4 y7
        rw [nv_no hno] at hx
        rw [← hx] at hq
        rw [w32_id (show -2147483648 ≤ q - p ∧ q - p < 2147483648 by omega)]
        by_cases e : q - p < 4
        · rw [if_pos e]
          have e' : q - p ≤ 3 := by omega
          simp only [] at hq
          rw [if_pos e'] at hq
          refine hq _ 0 (f2.up _ rfl) ⟨?_, ?_, ?_, fun _ => ?_, fun z => absurd z (by show ¬ (3 : Int) = 4; decide), fun z => absurd z (by show ¬ (3 : Int) = 5; decide)⟩
          · rw [gI_nf _ _ (by decide)]; exact y5
          · rw [gI_nf _ _ (by decide)]; exact y4
          · rw [gI_eq]; rfl
          · rw [gI_nf _ _ (by decide)]; exact y7
        · rw [if_neg e]
          have e' : ¬ q - p ≤ 3 := by omega
          simp only [] at hq
          rw [if_neg e'] at hq
          refine hq _ 0 (f2.up _ rfl) ⟨?_, ?_, ?_, fun z => absurd z (by show ¬ (1 : Int) = 3; decide), fun z => absurd z (by show ¬ (1 : Int) = 4; decide), fun z => absurd z (by show ¬ (1 : Int) = 5; decide)⟩
          · rw [gI_nf _ _ (by decide)]; exact y5
          · rw [gI_nf _ _ (by decide)]; exact y4
          · rw [gI_eq]; rfl
      induction d with
      | zero =>
        intro q v M2 hd q0 qN v0 v1 hx f2 y5 y4 y7
        apply k12_go_134_r
        rw [y5, y4, show gI M2 142 3 = N by rw [f2.g rfl]; exact t1, if_neg (by omega)]
        exact done q v M2 q0 qN (by omega) hx f2 y5 y4 y7
      | succ d ih =>
        intro q v M2 hd q0 qN v0 v1 hx f2 y5 y4 y7
        apply k12_go_134_r
        rw [y5, y4, y7, show gI M2 142 3 = N by rw [f2.g rfl]; exact t1]
        by_cases hq' : q < N
        case neg => rw [if_neg hq']; exact done q v M2 q0 qN (by omega) hx f2 y5 y4 y7
        rw [if_pos hq', show gI M2 143 q = L q by rw [f2.g rfl]; exact (t3 q (by omega) (by omega)).1]
        refine ⟨⟨by omega, by omega⟩, ?_⟩
        show (if ub L q < 48 then _ else _)
        by_cases a : ub L q < 48
        · rw [if_pos a]; exact done q v M2 q0 qN (by omega) hx f2 y5 y4 y7
        rw [if_neg a]
        show (if ub L q ≤ 57 then _ else _)
        by_cases b : ub L q ≤ 57
        case neg => rw [if_neg b]; exact done q v M2 q0 qN (by omega) hx f2 y5 y4 y7
        rw [if_pos b]
        have hd' : 48 ≤ ub L q ∧ ub L q ≤ 57 := by omega
        rw [nv_yes hq' hd'] at hx
        have v999 : v ≤ 999 := by
          split at v1
          · omega
          · split at v1
            · omega
            · split at v1 <;> omega
        have hud : pm_iand (L q) 255 = ub L q := rfl
        rw [hud, w32_id (show -2147483648 ≤ q + 1 ∧ q + 1 < 2147483648 by omega), w32_id (show -2147483648 ≤ q - p ∧ q - p < 2147483648 by omega), w32_id (show -2147483648 ≤ 10 * v ∧ 10 * v < 2147483648 by omega), w32_id (show -2147483648 ≤ 10 * v + ub L q ∧ 10 * v + ub L q < 2147483648 by omega), w32_id (show -2147483648 ≤ 10 * v + ub L q - 48 ∧ 10 * v + ub L q - 48 < 2147483648 by omega)]
        by_cases e3 : q - p < 3
        · rw [if_pos e3]; rw [if_pos e3] at hx
          refine ih (q + 1) (10 * v + ub L q - 48) _ (by omega) (by omega) (by omega) (by omega) ?_ hx ((f2.up _ rfl).up _ rfl) (gI_eq _ _ _ _) ?_ ?_
          · by_cases e0 : q - p = 0
            · rw [if_pos e0] at v1; rw [if_neg (by omega), if_pos (by omega)]; omega
            rw [if_neg e0] at v1
            by_cases e1 : q - p = 1
            · rw [if_pos e1] at v1; rw [if_neg (by omega), if_neg (by omega), if_pos (by omega)]; omega
            rw [if_neg e1] at v1
            rw [if_pos (by omega)] at v1
            rw [if_neg (by omega), if_neg (by omega), if_neg (by omega)]; omega
          · rw [gI_nf _ _ (by decide), gI_nf _ _ (by decide)]; exact y4
          · rw [gI_nf _ _ (by decide), gI_eq]
        · rw [if_neg e3]; rw [if_neg e3] at hx
          refine ih (q + 1) v _ (by omega) (by omega) (by omega) v0 ?_ hx ((f2.up _ rfl).up _ rfl) (gI_eq _ _ _ _) ?_ ?_
          · rw [if_neg (by omega), if_neg (by omega), if_neg (by omega)]; omega
          · rw [gI_nf _ _ (by decide), gI_nf _ _ (by decide)]; exact y4
          · rw [gI_nf _ _ (by decide), gI_eq]
    exact loop _ p 0 _ (Nat.le_refl _) (Int.le_refl _) hp.2 (by decide) (by rw [if_pos (by omega)]; decide) rfl ((Fr.rf.up _ rfl).up _ rfl) (by rw [gI_nf _ _ (by decide), gI_nf _ _ (by decide)]; exact e5) (by rw [gI_nf _ _ (by decide), gI_eq]) (gI_eq _ _ _ _)
  have ht : ¬ (97 ≤ ub L p ∧ ub L p ≤ 122) → ¬ (48 ≤ ub L p ∧ ub L p ≤ 57) → tok (ub L) N p = tsg (ub L) N p := by
    intro a b; unfold tok; rw [if_neg (by omega), if_neg a, if_neg b]
  by_cases a : ub L p < 97
  · rw [if_pos a]
    by_cases b : ub L p < 48
    · rw [if_pos b]; exact blk (ht (by omega) (by omega))
    rw [if_neg b]
    by_cases c : ub L p ≤ 57
    · rw [if_pos c]; exact numl ⟨by omega, c⟩
    · rw [if_neg c]; exact blk (ht (by omega) (by omega))
  · rw [if_neg a]
    by_cases b : ub L p ≤ 122
    · rw [if_pos b]; exact word ⟨by omega, b⟩
    rw [if_neg b, if_neg (by omega), if_neg (by omega)]
    exact blk (ht (by omega) (by omega))
theorem go_r {L : Int → Int} {N : Int} {s : Sc} {M : pm_M} {K : pm_M → Prop} (hT : TpR L N M) (e5 : gI M 142 5 = s.1) (hs0 : s.2.2.2.2 = 0) (h0 : 0 ≤ s.1 ∧ s.1 ≤ N) (hq : ∀ M', Fr q7 M M' → Hr (adv (ub L) N s) M' → K M') : k12_go M K := by
  obtain ⟨t1, ⟨n0, n6⟩, t3⟩ := hT
  apply k12_go_r
  unfold adv at hq
  rw [if_pos hs0] at hq
  have loop : ∀ (d : Nat) (q : Int) (M2 : pm_M), (N - q).toNat ≤ d → 0 ≤ q → q ≤ N → sk (ub L) N q = sk (ub L) N s.1 → Fr q7 M M2 → gI M2 142 5 = q → k12_go_0 M2 K := by
    intro d
    have done : ∀ (q : Int) (M2 : pm_M), 0 ≤ q → q ≤ N → ¬ (q < N ∧ (ub L q = 32 ∨ ub L q = 10)) → sk (ub L) N q = sk (ub L) N s.1 → Fr q7 M M2 → gI M2 142 5 = q → k12_go_0 M2 K := by
      intro q M2 q0 qN hno hx f2 y5
      rw [sk_no hno] at hx
      rw [← hx] at hq
      exact go0_r (L := L) (N := N) ⟨by rw [f2.g rfl]; exact t1, ⟨n0, n6⟩, fun i i0 i1 => by rw [f2.g rfl]; exact t3 i i0 i1⟩ ⟨q0, qN⟩ hno y5 (fun M3 f f3 h3 => hq M3 (f2.trans f3) h3)
    induction d with
    | zero =>
      intro q M2 hd q0 qN hx f2 y5
      exact done q M2 q0 qN (by omega) hx f2 y5
    | succ d ih =>
      intro q M2 hd q0 qN hx f2 y5
      by_cases h : q < N ∧ (ub L q = 32 ∨ ub L q = 10)
      case neg => exact done q M2 q0 qN h hx f2 y5
      rw [sk_yes h.1 h.2] at hx
      apply k12_go_0_r
      have hud : pm_iand (L q) 255 = ub L q := rfl
      rw [y5, show gI M2 142 3 = N by rw [f2.g rfl]; exact t1, if_pos h.1, show gI M2 143 q = L q by rw [f2.g rfl]; exact (t3 q q0 (by omega)).1, hud, w32_id (show -2147483648 ≤ q + 1 ∧ q + 1 < 2147483648 by omega)]
      refine ⟨⟨q0, by omega⟩, ?_⟩
      have nx := ih (q + 1) _ (by omega) (by omega) (by omega) hx (f2.up (q + 1) (a := 142) (i := 5) rfl) (gI_eq _ _ _ _)
      by_cases a : ub L q = 32
      · rw [if_pos a]; exact nx
      · rw [if_neg a, if_pos (by omega)]; exact nx
  exact loop _ s.1 M (Nat.le_refl _) h0.1 h0.2 rfl Fr.rf e5

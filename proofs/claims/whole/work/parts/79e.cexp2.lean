-- needs 30 31 32 33a 33b 33c 33d 33e 33f 33g 33h 33i 33j 40 41 42 43 44 45 46 50 51 52 53 54 79a 79aa 79b 79d
/-! the class reads expressions -/
def NS (o : Nat) (l : List (Int × Int)) (M : pm_M) : Prop := gI M o 15 = (l.length : Int) ∧ (l.length ≤ 60 → ∀ i : Nat, i < l.length → gI M (o + 1) (i : Int) = (l.getD i (0, 0)).1 ∧ gI M (o + 2) (i : Int) = (l.getD i (0, 0)).2) ∧ MV l (gI M o 18)
def pI (o a i : Nat) : Bool := a == o + 1 || a == o + 2 || (a == o && (i == 15 || i == 18))
theorem insert_r {o : Nat} (ho : o = 2 ∨ o = 36) {l : List (Int × Int)} {M : pm_M} {K : pm_M → Prop} {k : Nat} {x : Int × Int} (hk : k ≤ l.length) (hl : l.length < 10000) (hN : NS o l M) (hx : x.1 = 0 ∨ x.1 = 5 → 0 ≤ x.2 ∧ x.2 < 9) (hq : ∀ M', Fr (pI o) M M' → NS o (ins l k x) M' → K M') : k0_insert o (k : Int) x.1 x.2 M K := by
  obtain ⟨n1, n2, n3⟩ := hN
  have hlen := ins_len (x := x) hk
  obtain ⟨m0, m1⟩ := n3.add (l' := ins l k x) (y := x) (fun z => ins_mem)
  have ws : w32 ((l.length : Int) + 1) = (l.length : Int) + 1 := w32_id (by omega)
  -- the end: the set of variables
  have fin : ∀ X, Fr (pI o) M X → gI X o 18 = gI M o 18 → gI X o 15 = (l.length : Int) + 1 → (l.length + 1 ≤ 60 → ∀ i : Nat, i < l.length + 1 → gI X (o + 1) (i : Int) = ((ins l k x).getD i (0, 0)).1 ∧ gI X (o + 2) (i : Int) = ((ins l k x).getD i (0, 0)).2) → (if x.1 = 0 then (if x.2 < 0 then K X else K (upI X o 18 (pm_ior (gI M o 18) (pm_ishl 1 x.2)))) else (if x.1 = 5 then (if x.2 < 0 then K X else K (upI X o 18 (pm_ior (gI M o 18) (pm_ishl 1 x.2)))) else K X)) := by
    intro X fX e18 e15 hr
    have yes : (x.1 = 0 ∨ x.1 = 5) → (if x.2 < 0 then K X else K (upI X o 18 (pm_ior (gI M o 18) (pm_ishl 1 x.2)))) := by
      intro hk'
      have hv := hx hk'
      rw [if_neg (by omega)]
      refine hq _ (fX.up _ (by simp [pI])) ⟨?_, ?_, ?_⟩
      · rw [gI_nf _ _ (by decide), e15, hlen]; omega
      · intro h60 i hi
        rw [gI_ne _ _ _ _ (by omega), gI_ne _ _ _ _ (by omega)]
        rw [hlen] at h60 hi
        exact hr h60 i hi
      · rw [gI_eq]; exact m1 hk' hv
    by_cases a : x.1 = 0
    · rw [if_pos a]; exact yes (Or.inl a)
    rw [if_neg a]
    by_cases b : x.1 = 5
    · rw [if_pos b]; exact yes (Or.inr b)
    rw [if_neg b]
    refine hq X fX ⟨?_, ?_, ?_⟩
    · rw [e15, hlen]; omega
    · intro h60 i hi
      rw [hlen] at h60 hi
      exact hr h60 i hi
    · rw [e18]; exact m0 (fun z => z.elim a b)
  apply k0_insert_r ho
  rw [n1]
  by_cases h60 : l.length < 60
  case neg =>
    rw [if_neg (by omega), ws]
    exact fin (upI M o 15 ((l.length : Int) + 1)) (Fr.rf.up _ (by simp [pI])) (gI_nf _ _ (by decide)) (gI_eq _ _ _ _) (fun z => by omega)
  rw [if_pos (by omega), if_neg (by omega), if_pos (by omega), ws]
  have w1 : w32 ((k : Int) + 1) = (k : Int) + 1 := w32_id (by omega)
  have w2 : w32 ((l.length : Int) - (k : Int)) = (l.length : Int) - (k : Int) := w32_id (by omega)
  rw [w1, w2]
  refine ⟨⟨by omega, by omega, by omega, by omega, by omega⟩, ⟨by omega, by omega, by omega, by omega, by omega⟩, ⟨by omega, by omega⟩, ?_⟩
  generalize hA : pm_nw M (o + 1) (fun j => if ((k : Int) + 1).toNat ≤ j ∧ j < ((k : Int) + 1).toNat + ((l.length : Int) - (k : Int)).toNat then M (o + 1) ((k : Int).toNat + (j - ((k : Int) + 1).toNat)) else M (o + 1) j) = A
  generalize hB : pm_nw A (o + 2) (fun j => if ((k : Int) + 1).toNat ≤ j ∧ j < ((k : Int) + 1).toNat + ((l.length : Int) - (k : Int)).toNat then A (o + 2) ((k : Int).toNat + (j - ((k : Int) + 1).toNat)) else A (o + 2) j) = B
  have fB : Fr (pI o) M B := by
    intro a i z
    simp only [pI, Bool.or_eq_false_iff, beq_eq_false_iff_ne] at z
    rw [← hB, pm_nw_ne z.1.2, ← hA, pm_nw_ne z.1.1]
  have b1 : ∀ i : Nat, gI B (o + 1) (i : Int) = if k + 1 ≤ i ∧ i < k + 1 + (l.length - k) then gI M (o + 1) ((i : Int) - 1) else gI M (o + 1) (i : Int) := by
    intro i
    rw [← hB, gI_nwn _ _ _ (by omega), ← hA, gI_nw]
    have e1 : ((k : Int) + 1).toNat = k + 1 := by omega
    have e2 : ((l.length : Int) - (k : Int)).toNat = l.length - k := by omega
    rw [e1, e2, Int.toNat_natCast, Int.toNat_natCast]
    by_cases h : k + 1 ≤ i ∧ i < k + 1 + (l.length - k)
    · rw [if_pos h, if_pos h]
      show M (o + 1) (k + (i - (k + 1))) = M (o + 1) ((i : Int) - 1).toNat
      rw [show ((i : Int) - 1).toNat = k + (i - (k + 1)) by omega]
    · rw [if_neg h, if_neg h]; unfold gI; rw [Int.toNat_natCast]
  have b2 : ∀ i : Nat, gI B (o + 2) (i : Int) = if k + 1 ≤ i ∧ i < k + 1 + (l.length - k) then gI M (o + 2) ((i : Int) - 1) else gI M (o + 2) (i : Int) := by
    intro i
    have eA : A (o + 2) = M (o + 2) := by rw [← hA, pm_nw_ne (by omega)]
    rw [← hB, gI_nw, eA]
    have e1 : ((k : Int) + 1).toNat = k + 1 := by omega
    have e2 : ((l.length : Int) - (k : Int)).toNat = l.length - k := by omega
    rw [e1, e2, Int.toNat_natCast, Int.toNat_natCast]
    by_cases h : k + 1 ≤ i ∧ i < k + 1 + (l.length - k)
    · rw [if_pos h, if_pos h]
      show M (o + 2) (k + (i - (k + 1))) = M (o + 2) ((i : Int) - 1).toNat
      rw [show ((i : Int) - 1).toNat = k + (i - (k + 1)) by omega]
    · rw [if_neg h, if_neg h]; unfold gI; rw [Int.toNat_natCast]
  refine fin (upI (upI (upI B (o + 1) (k : Int) x.1) (o + 2) (k : Int) x.2) o 15 ((l.length : Int) + 1)) (((fB.up _ (by simp [pI])).up _ (by simp [pI])).up _ (by simp [pI])) ?_ (gI_eq _ _ _ _) ?_
  · rw [gI_nf _ _ (by decide), gI_ne _ _ _ _ (by omega), gI_ne _ _ _ _ (by omega), ← hB, gI_nwn _ _ _ (by omega), ← hA, gI_nwn _ _ _ (by omega)]
  · intro _ i hi
    have hn := n2 (by omega)
    have q1 : gI (upI (upI (upI B (o + 1) (k : Int) x.1) (o + 2) (k : Int) x.2) o 15 ((l.length : Int) + 1)) (o + 1) (i : Int) = if (i : Int) = (k : Int) then x.1 else gI B (o + 1) (i : Int) := by
      rw [gI_ne _ _ _ _ (show o + 1 ≠ o by omega), gI_ne _ _ _ _ (show o + 1 ≠ o + 2 by omega), gI_up _ _ (show (0 : Int) ≤ (k : Int) by omega) (show (0 : Int) ≤ (i : Int) by omega)]
    have q2 : gI (upI (upI (upI B (o + 1) (k : Int) x.1) (o + 2) (k : Int) x.2) o 15 ((l.length : Int) + 1)) (o + 2) (i : Int) = if (i : Int) = (k : Int) then x.2 else gI B (o + 2) (i : Int) := by
      rw [gI_ne _ _ _ _ (show o + 2 ≠ o by omega), gI_up _ _ (show (0 : Int) ≤ (k : Int) by omega) (show (0 : Int) ≤ (i : Int) by omega), gI_ne _ _ _ _ (show o + 2 ≠ o + 1 by omega)]
    rw [q1, q2, b1, b2, ins_get hk]
    by_cases a : i < k
    · rw [if_pos a, if_neg (by omega), if_neg (by omega), if_neg (by omega), if_neg (by omega)]
      exact hn i (by omega)
    rw [if_neg a]
    by_cases b : i = k
    · rw [if_pos b, if_pos (by omega), if_pos (by omega)]; exact ⟨rfl, rfl⟩
    · have h1 : ¬ (i : Int) = (k : Int) := by omega
      have h2 : k + 1 ≤ i ∧ i < k + 1 + (l.length - k) := by omega
      rw [if_neg b, if_neg h1, if_neg h1, if_pos h2, if_pos h2]
      have := hn (i - 1) (by omega)
      rw [show ((i - 1 : Nat) : Int) = (i : Int) - 1 by omega] at this
      exact this
theorem vch_rng (c : Int) : vch c = -1 ∨ (0 ≤ vch c ∧ vch c < 9) := by
  unfold vch
  split
  · omega
  split <;> omega
theorem variable_r {L : Int → Int} {N : Int} {s : Sc} {M : pm_M} {K : Int → pm_M → Prop} (hT : TpC L N M) (hs : Hs s M) (h0 : SK N s) (hK : K (vr (ub L) s) M) : k7_variable M K := by
  obtain ⟨t1, ⟨n0, n6⟩, t3⟩ := hT
  obtain ⟨⟨p0, p1, p2⟩, -, -⟩ := h0
  apply k7_variable_r
  rw [hs.1, hs.2.1, hs.2.2.1, t1, w32_id (show -2147483648 ≤ s.1 - s.2.1 ∧ s.1 - s.2.1 < 2147483648 by omega)]
  unfold vr at hK
  by_cases a : s.2.2.1 = 2
  case neg => rw [if_neg a]; rw [if_neg (fun z => a z.1)] at hK; exact hK
  rw [if_pos a]
  by_cases b : s.1 - s.2.1 = 1
  case neg => rw [if_neg b]; rw [if_neg (fun z => b z.2)] at hK; exact hK
  rw [if_pos ⟨a, b⟩] at hK
  rw [if_pos b, if_neg (by omega), if_pos (by omega), (t3 s.2.1 p0 (by omega)).1]
  refine ⟨⟨p0, by omega⟩, ?_⟩
  have hs' := ub_s (t3 s.2.1 p0 (by omega)).2
  have tb := (t3 s.2.1 p0 (by omega)).2
  have hu : ub L s.2.1 = pm_iand (L s.2.1) 255 := rfl
  rw [← hu] at hs' ⊢
  rw [show ub L s.2.1 % 65536 = ub L s.2.1 by omega]
  refine indexOf_r (Or.inr (Or.inr rfl)) (by omega) ?_
  rw [show ((2 : Int).toNat) = 2 from rfl, ix2 (by omega)]; exact hK
theorem Hs.up6 {s : Sc} {M : pm_M} (h : Hs s M) (h0 : s.2.2.2.2 = 0) (k : Int) : Hs (refu s k) (upI (upI M 70 6 (8 * s.2.1 + k)) 70 4 1) := by
  unfold refu
  rw [if_pos h0]
  refine ⟨?_, ?_, ?_, ?_, ?_⟩
  · rw [gI_nf _ _ (by decide), gI_nf _ _ (by decide)]; exact h.1
  · rw [gI_nf _ _ (by decide), gI_nf _ _ (by decide)]; exact h.2.1
  · rw [gI_eq]
  · rw [gI_nf _ _ (by decide), gI_nf _ _ (by decide)]; exact h.2.2.2.1
  · rw [gI_nf _ _ (by decide), gI_eq]
theorem refuse_w {N : Int} {s : Sc} (hN : N ≤ 600) (h : SK N s) (k : Int) (hk : 0 < k ∧ k < 8) : w32 (w32 (8 * s.2.1) + k) = 8 * s.2.1 + k := by
  have := h.1
  rw [w32_id (show -2147483648 ≤ 8 * s.2.1 ∧ 8 * s.2.1 < 2147483648 by omega), w32_id (by omega)]
theorem expectMark_r {L : Int → Int} {N c : Int} {s : Sc} {M : pm_M} {K : pm_M → Prop} (hT : TpC L N M) (hs : Hs s M) (h0 : SK N s) (hq : ∀ M', Fr p7 M M' → Hs (exm (ub L) N c s) M' → K M') : k7_expectMark c M K := by
  have hp := h0.1
  have n6 := hT.2.1.2
  apply k7_expectMark_r
  rw [hs.2.2.1, hs.2.2.2.1, hs.2.2.2.2, hs.2.1, refuse_w n6 h0 1 (by decide)]
  unfold exm at hq
  have bad : ¬ (s.2.2.1 = 5 ∧ s.2.2.2.1 = c) → (if s.2.2.2.2 = 0 then k7_advance (upI (upI M 70 6 (8 * s.2.1 + 1)) 70 4 1) (fun M6 => K M6) else k7_advance M (fun M8 => K M8)) := by
    intro hno
    rw [if_neg hno] at hq
    by_cases z : s.2.2.2.2 = 0
    · rw [if_pos z]
      have f1 : Fr p7 M (upI (upI M 70 6 (8 * s.2.1 + 1)) 70 4 1) := (Fr.rf.up _ rfl).up _ rfl
      have hr := (h0.refuk (k := 1) (by decide)).1
      exact advance_r (hT.fr f1 rfl (fun _ => rfl)) (hs.up6 z 1) ⟨by omega, by omega⟩ (fun M2 f2 h2 => hq M2 (f1.trans f2) h2)
    · rw [if_neg z]
      rw [refu_dead z] at hq
      exact advance_r hT hs ⟨by omega, by omega⟩ hq
  by_cases a : s.2.2.1 = 5
  · rw [if_pos a]
    by_cases b : s.2.2.2.1 = c
    · rw [if_pos b]
      rw [if_pos ⟨a, b⟩] at hq
      exact advance_r hT hs ⟨by omega, by omega⟩ hq
    · rw [if_neg b]; exact bad (fun z => b z.2)
  · rw [if_neg a]; exact bad (fun z => a z.1)
theorem CSt.ns {L : Int → Int} {N : Int} {o : Nat} {S : Ps} {M : pm_M} (h : CSt L N o S M) : NS o S.2 M := h.2.2.2
theorem pI_E {o a i : Nat} (h : pI o a i = true) : pE o a i = true := by
  simp only [pI, pE, Bool.or_eq_true] at h ⊢
  rcases h with (h | h) | h
  · exact Or.inl (Or.inl (Or.inr h))
  · exact Or.inl (Or.inr h)
  · exact Or.inr h
theorem p7_E {o a i : Nat} (h : p7 a i = true) : pE o a i = true := by simp only [pE, h, Bool.true_or]
/-- a node put in, the next token -/
theorem insAdv_r {L : Int → Int} {N : Int} {o : Nat} (ho : o = 2 ∨ o = 36) {S : Ps} {M : pm_M} {K : pm_M → Prop} {k : Nat} {x : Int × Int} (hk : k ≤ S.2.length) (hl : S.2.length < 10000) (hC : CSt L N o S M) (hS : SK N S.1) (hx : x.1 = 0 ∨ x.1 = 5 → 0 ≤ x.2 ∧ x.2 < 9) (hq : ∀ M', Fr (pE o) M M' → CSt L N o (adv (ub L) N S.1, ins S.2 k x) M' → K M') : k0_insert o (k : Int) x.1 x.2 M (fun M5 => k7_advance M5 (fun M7 => K M7)) := by
  have hp := hS.1
  refine insert_r ho hk hl hC.ns hx (fun M1 f1 n1 => ?_)
  have hT1 : TpC L N M1 := hC.1.fr f1 (by simp [pI]; omega) (fun i => by simp [pI]; omega)
  have h70 : ∀ i, gI M1 70 i = gI M 70 i := fun i => f1.g (by simp [pI]; omega)
  have hs1 : Hs S.1 M1 := by unfold Hs; rw [h70, h70, h70, h70, h70]; exact hC.2.1
  refine advance_r hT1 hs1 ⟨by omega, hp.2.2⟩ (fun M2 f2 h2 => ?_)
  refine hq M2 ((f1.mono (fun a i h => pI_E h)).trans (f2.mono (fun a i h => p7_E h))) ⟨hT1.fr f2 rfl (fun _ => rfl), h2, ?_, ?_, ?_, ?_⟩
  · rw [f2.g rfl, f1.g (by simp [pI]; omega)]; exact hC.2.2.1
  · rw [f2.g (by simp [p7] <;> omega)]; exact n1.1
  · intro h60 i hi
    rw [f2.g (by simp [p7] <;> omega), f2.g (by simp [p7] <;> omega)]; exact n1.2.1 h60 i hi
  · rw [f2.g (by simp [p7] <;> omega)]; exact n1.2.2
theorem CSt.sc {L : Int → Int} {N : Int} {o : Nat} (ho : o = 2 ∨ o = 36) {S : Ps} {s : Sc} {M M' : pm_M} (h : CSt L N o S M) (f : Fr p7 M M') (hs : Hs s M') : CSt L N o (s, S.2) M' := by
  refine ⟨h.1.fr f rfl (fun _ => rfl), hs, ?_, ?_, ?_, ?_⟩
  · rw [f.g rfl]; exact h.2.2.1
  · rw [f.g (by simp [p7] <;> omega)]; exact h.2.2.2.1
  · intro h60 i hi
    rw [f.g (by simp [p7] <;> omega), f.g (by simp [p7] <;> omega)]; exact h.2.2.2.2.1 h60 i hi
  · rw [f.g (by simp [p7] <;> omega)]; exact h.2.2.2.2.2
theorem lpf_next {g : Ps → Ps} {u : Int → Int} {N lev : Int} {k n : Nat} {S : Ps} (h : S.1.2.2.1 = 4 ∧ lvl S.1.2.2.2.1 = lev) : lpf g u N lev k (n + 1) S = lpf g u N lev k n (g (adv u N S.1, ins S.2 k (7, S.1.2.2.2.1))) := by
  show (if S.1.2.2.1 = 4 ∧ lvl S.1.2.2.2.1 = lev then lpf g u N lev k n (g (adv u N S.1, ins S.2 k (7, S.1.2.2.2.1))) else S) = _
  rw [if_pos h]
theorem lpf_stop {g : Ps → Ps} {u : Int → Int} {N lev : Int} {k n : Nat} {S : Ps} (h : ¬ (S.1.2.2.1 = 4 ∧ lvl S.1.2.2.2.1 = lev)) : lpf g u N lev k n S = S := by
  cases n with
  | zero => rfl
  | succ n =>
    show (if S.1.2.2.1 = 4 ∧ lvl S.1.2.2.2.1 = lev then lpf g u N lev k n (g (adv u N S.1, ins S.2 k (7, S.1.2.2.2.1))) else S) = _
    rw [if_neg h]
/-- where the next token begins -/
theorem adv_pl {u : Int → Int} {N : Int} {s : Sc} (h : SK N s) (h0 : s.2.2.2.2 = 0) : s.1 ≤ (adv u N s).2.1 := by
  unfold adv
  rw [if_pos h0]
  have := h.1
  exact (sk_rng (u := u) (N := N) _ s.1 (Nat.le_refl _) (by omega) this.2.2).1
/-- what reading keeps: tokens as they can be; no more nodes than bytes; none are lost -/
def Gd (N : Int) (S S' : Ps) : Prop := SK N S'.1 ∧ S.2.length ≤ S'.2.length ∧ (S'.2.length : Int) ≤ (if S'.1.2.2.2.2 = 0 then S'.1.2.1 else S'.1.1)
theorem Gd.len {N : Int} {S S' : Ps} (h : Gd N S S') : (S'.2.length : Int) ≤ S'.1.1 := by
  obtain ⟨a, b, c⟩ := h
  have := a.1
  split at c <;> omega
/-- a token taken, a node more at most -/
theorem Gd.tk {u : Int → Int} {N : Int} {S : Ps} {l : List (Int × Int)} (h : SK N S.1) (hl : (S.2.length : Int) ≤ S.1.2.1) (h0 : S.1.2.2.2.2 = 0) (ht : ¬ S.1.2.2.1 = 0) (hle : S.2.length ≤ l.length ∧ l.length ≤ S.2.length + 1) : Gd N S (adv u N S.1, l) := by
  have h1 := (h.2.2.1 h0).2 ht
  have h2 := adv_pl (u := u) h h0
  have h3 : SK N (adv u N S.1) := h.advk
  refine ⟨h3, hle.1, ?_⟩
  have := h3.1
  simp only []
  split <;> omega
theorem Gd.rfl' {N : Int} {S : Ps} (h : SK N S.1) (hl : (S.2.length : Int) ≤ S.1.2.1) : Gd N S S := ⟨h, Nat.le_refl _, by have := h.1; split <;> omega⟩
theorem Gd.rf2 {N : Int} {S : Ps} {k : Int} (h : SK N S.1) (hl : (S.2.length : Int) ≤ S.1.2.1) (h0 : S.1.2.2.2.2 = 0) (hk : 0 < k) : Gd N S (refu S.1 k, S.2) := by
  refine ⟨h.refuk hk, Nat.le_refl _, ?_⟩
  have := h.1
  unfold refu
  rw [if_pos h0]
  simp only []
  split <;> omega
/-- reading an expression keeps all that -/
theorem rx_Gd {u : Int → Int} {N : Int} : ∀ (f : Nat) (lev d : Int) (S : Ps), SK N S.1 → (S.2.length : Int) ≤ (if S.1.2.2.2.2 = 0 then S.1.2.1 else S.1.1) → Gd N S (rx u N f lev d S) := by
  intro f
  induction f with
  | zero => intro lev d S h hl; exact ⟨h, Nat.le_refl _, hl⟩
  | succ f ih =>
    intro lev d S h hl
    by_cases hf : S.1.2.2.2.2 = 0
    case neg =>
      rw [rx_dead _ _ _ _ hf (h.2.1 hf)]; exact ⟨h, Nat.le_refl _, hl⟩
    rw [if_pos hf] at hl
    unfold rx
    by_cases hl2 : lev ≤ 2
    · rw [if_pos hl2]
      have h1 := ih (lev + 1) d S h (by rw [if_pos hf]; exact hl)
      have loop : ∀ (n : Nat) (S1 : Ps), Gd N S S1 → S.2.length ≤ S1.2.length → Gd N S (lpf (rx u N f (lev + 1) d) u N lev S.2.length n S1) := by
        intro n
        induction n with
        | zero => intro S1 g1 _; exact g1
        | succ n ihn =>
          intro S1 g1 hk
          by_cases hs : S1.1.2.2.1 = 4 ∧ lvl S1.1.2.2.2.1 = lev
          · rw [lpf_next hs]
            have hf1 : S1.1.2.2.2.2 = 0 := by
              by_cases z : S1.1.2.2.2.2 = 0
              · exact z
              · have := g1.1.2.1 z; omega
            have hl1 := g1.2.2
            rw [if_pos hf1] at hl1
            have hi := ins_len (x := (7, S1.1.2.2.2.1)) hk
            have g2 := Gd.tk (u := u) (l := ins S1.2 S.2.length (7, S1.1.2.2.2.1)) g1.1 hl1 hf1 (by omega) (by omega)
            have g3 := ih (lev + 1) d (adv u N S1.1, ins S1.2 S.2.length (7, S1.1.2.2.2.1)) g2.1 g2.2.2
            have hle := g3.2.1
            simp only [] at hle
            exact ihn _ ⟨g3.1, by omega, g3.2.2⟩ (by omega)
          · rw [lpf_stop hs]; exact g1
      exact loop _ _ h1 h1.2.1
    · rw [if_neg hl2]
      by_cases a : ((S.1.2.2.1 = 5 ∧ S.1.2.2.2.1 = 40) ∨ (S.1.2.2.1 = 4 ∧ S.1.2.2.2.1 = 1)) ∧ 8 ≤ d
      · rw [if_pos a]; exact Gd.rf2 h hl hf (by decide)
      rw [if_neg a]
      by_cases b : S.1.2.2.1 = 5 ∧ S.1.2.2.2.1 = 40
      · rw [if_pos b]
        have g1 := Gd.tk (u := u) (l := S.2) h hl hf (by omega) (by omega)
        have g2 := ih 0 (d + 1) (adv u N S.1, S.2) g1.1 g1.2.2
        generalize rx u N f 0 (d + 1) (adv u N S.1, S.2) = S2 at *
        refine ⟨g2.1.exmk, g2.2.1, ?_⟩
        have gl := g2.len
        have ge : SK N (exm u N 41 S2.1) := g2.1.exmk
        have := ge.1
        have hexm : S2.1.1 ≤ (exm u N 41 S2.1).1 ∧ ((exm u N 41 S2.1).2.2.2.2 = 0 → S2.1.1 ≤ (exm u N 41 S2.1).2.1) := by
          by_cases z : S2.1.2.2.2.2 = 0
          · unfold exm
            by_cases y : S2.1.2.2.1 = 5 ∧ S2.1.2.2.2.1 = 41
            · rw [if_pos y]
              have q1 := adv_pl (u := u) g2.1 z
              have q2 := (SK.advk (u := u) g2.1).1
              exact ⟨by omega, fun _ => q1⟩
            · rw [if_neg y]
              have hne : ¬ (refu S2.1 1).2.2.2.2 = 0 := by unfold refu; rw [if_pos z]; have := g2.1.1; simp only []; omega
              rw [adv_dead hne]
              refine ⟨?_, fun w => absurd w hne⟩
              unfold refu; rw [if_pos z]; exact Int.le_refl _
          · rw [exm_dead z]
            exact ⟨Int.le_refl _, fun w => absurd w z⟩
        simp only []
        split
        · have := hexm.2 (by assumption); omega
        · have := hexm.1; omega
      rw [if_neg b]
      by_cases c : S.1.2.2.1 = 4 ∧ S.1.2.2.2.1 = 1
      · rw [if_pos c]
        have g1 := Gd.tk (u := u) (l := S.2 ++ [(6, 0)]) h hl hf (by omega) (by simp)
        have g2 := ih 3 (d + 1) (adv u N S.1, S.2 ++ [(6, 0)]) g1.1 g1.2.2
        have h2 := g2.2.1
        simp only [List.length_append, List.length_singleton] at h2
        exact ⟨g2.1, by omega, g2.2.2⟩
      rw [if_neg c]
      by_cases e : S.1.2.2.1 = 3
      · rw [if_pos e]
        exact Gd.tk (u := u) (l := S.2 ++ [(4, S.1.2.2.2.1)]) h hl hf (by omega) (by simp)
      rw [if_neg e]
      by_cases g : ¬ vr u S.1 = -1
      · rw [if_pos g]
        refine Gd.tk (u := u) (l := S.2 ++ [(5, vr u S.1)]) h hl hf (fun z => g ?_) (by simp)
        unfold vr; rw [if_neg (fun y => by omega)]
      · rw [if_neg g]; exact Gd.rf2 h hl hf (by decide)

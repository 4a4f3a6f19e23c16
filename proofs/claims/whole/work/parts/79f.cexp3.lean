-- needs 30 31 32 33a 33b 33c 33d 33e 33f 33g 33h 33i 33j 40 41 42 43 44 45 46 50 51 52 53 54 79a 79aa 79b 79d 79e
/-! the class reads an expression -/
def PA (L : Int → Int) (N : Int) (o f : Nat) : Prop := ∀ (lev d : Int) (S : Ps) (M : pm_M) (K : pm_M → Prop) (h : Nat), 0 ≤ lev → lev ≤ 3 → 0 ≤ d → d ≤ 8 → 4 * (8 - d) + (4 - lev) ≤ f → 27 + 5 * (8 - d) + (4 - lev) ≤ h → SK N S.1 → (S.2.length : Int) ≤ (if S.1.2.2.2.2 = 0 then S.1.2.1 else S.1.1) → CSt L N o S M → (∀ M', Fr (pE o) M M' → CSt L N o (rx (ub L) N f lev d S) M' → K M') → k4_readSides h o lev d M K
def PB (L : Int → Int) (N : Int) (o f : Nat) : Prop := ∀ (d : Int) (S : Ps) (M : pm_M) (K : pm_M → Prop) (h : Nat), 0 ≤ d → d ≤ 8 → 4 * (8 - d) + 1 ≤ f → 27 + 5 * (8 - d) ≤ h → SK N S.1 → (S.2.length : Int) ≤ (if S.1.2.2.2.2 = 0 then S.1.2.1 else S.1.1) → CSt L N o S M → (∀ M', Fr (pE o) M M' → CSt L N o (rx (ub L) N f 3 d S) M' → K M') → k4_readPart h o d M K
theorem crx {L : Int → Int} {N : Int} {o : Nat} (ho : o = 2 ∨ o = 36) : ∀ f : Nat, PA L N o f ∧ PB L N o f := by
  intro f
  induction f with
  | zero => exact ⟨fun lev d S M K h a b c e m => by omega, fun d S M K h a b m => by omega⟩
  | succ f ih =>
    obtain ⟨iA, iB⟩ := ih
    have hB : PB L N o (f + 1) := by
      intro d S M K h d0 d8 hm hh hS hl hC hq
      have n6 := hC.1.2.1.2
      have hp := hS.1
      have hlen : S.2.length < 10000 := by split at hl <;> omega
      have hsE : ∀ k, 0 < k ∧ k < 8 → ∀ M1, Fr p7 M M1 → Hs S.1 M1 → CSt L N o S M1 → (if gI M1 70 6 = 0 then (CSt L N o (refu S.1 k, S.2) (upI (upI M1 70 6 (w32 ((w32 (8 * (gI M1 70 3))) + k))) 70 4 1) ∧ Fr (pE o) M (upI (upI M1 70 6 (w32 ((w32 (8 * (gI M1 70 3))) + k))) 70 4 1)) else (CSt L N o (refu S.1 k, S.2) M1 ∧ Fr (pE o) M M1)) := by
        intro k hk M1 f1 hs1 hC1
        rw [hs1.2.2.2.2, hs1.2.1, refuse_w n6 hS k hk]
        have f1' : Fr (pE o) M M1 := f1.mono (fun a i h => p7_E h)
        by_cases z : S.1.2.2.2.2 = 0
        · rw [if_pos z]
          exact ⟨hC1.sc ho ((Fr.rf.up _ rfl).up _ rfl) (hs1.up6 z k), (f1'.up _ rfl).up _ rfl⟩
        · rw [if_neg z, refu_dead z]; exact ⟨hC1, f1'⟩
      have refuse : ∀ k, 0 < k ∧ k < 8 → rx (ub L) N (f + 1) 3 d S = (refu S.1 k, S.2) → (if gI M 70 6 = 0 then K (upI (upI M 70 6 (w32 ((w32 (8 * (gI M 70 3))) + k))) 70 4 1) else K M) := by
        intro k hk hr
        rw [hr] at hq
        have := hsE k hk M Fr.rf hC.2.1 hC
        by_cases z : gI M 70 6 = 0
        · rw [if_pos z] at this ⊢; exact hq _ this.2 this.1
        · rw [if_neg z] at this ⊢; exact hq _ this.2 this.1
      have hrx : rx (ub L) N (f + 1) 3 d S = (if ((S.1.2.2.1 = 5 ∧ S.1.2.2.2.1 = 40) ∨ (S.1.2.2.1 = 4 ∧ S.1.2.2.2.1 = 1)) ∧ 8 ≤ d then (refu S.1 2, S.2)
    else if S.1.2.2.1 = 5 ∧ S.1.2.2.2.1 = 40 then (exm (ub L) N 41 (rx (ub L) N f 0 (d + 1) (adv (ub L) N S.1, S.2)).1, (rx (ub L) N f 0 (d + 1) (adv (ub L) N S.1, S.2)).2)
    else if S.1.2.2.1 = 4 ∧ S.1.2.2.2.1 = 1 then rx (ub L) N f 3 (d + 1) (adv (ub L) N S.1, S.2 ++ [(6, 0)])
    else if S.1.2.2.1 = 3 then (adv (ub L) N S.1, S.2 ++ [(4, S.1.2.2.2.1)])
    else if ¬ vr (ub L) S.1 = -1 then (adv (ub L) N S.1, S.2 ++ [(5, vr (ub L) S.1)])
    else (refu S.1 1, S.2)) := by
        conv => lhs; unfold rx
        rw [if_neg (by decide)]
      have alive : (¬ S.1.2.2.1 = 1) → S.1.2.2.2.2 = 0 := fun z => by
        by_cases y : S.1.2.2.2.2 = 0
        · exact y
        · exact absurd (hS.2.1 y) z
      have e4 := hC.2.1.2.2.1
      have e5 := hC.2.1.2.2.2.1
      have e71 := hC.2.2.1
      have e15 := hC.2.2.2.1
      -- a node put behind all
      have app : ∀ x : Int × Int, (x.1 = 0 ∨ x.1 = 5 → 0 ≤ x.2 ∧ x.2 < 9) → ∀ (Q : pm_M → Prop), (∀ M', Fr (pE o) M M' → CSt L N o (adv (ub L) N S.1, S.2 ++ [x]) M' → Q M') → k0_insert o (gI M o 15) x.1 x.2 M (fun M5 => k7_advance M5 (fun M7 => Q M7)) := by
        intro x hx Q hQ
        rw [e15]
        refine insAdv_r ho (Nat.le_refl _) hlen hC hS hx (fun M1 f1 c1 => ?_)
        rw [ins_end] at c1
        exact hQ M1 f1 c1
      -- neither opened nor negated
      have plain : ¬ (S.1.2.2.1 = 5 ∧ S.1.2.2.2.1 = 40) → ¬ (S.1.2.2.1 = 4 ∧ S.1.2.2.2.1 = 1) → k4_readPart_53 h o d 0 0 (vr (ub L) S.1) M K := by
        intro n1 n2
        rw [if_neg (fun z => z.1.elim n1 n2), if_neg n1, if_neg n2] at hrx
        apply k4_readPart_53_r ho (by omega)
        rw [if_pos rfl, if_pos rfl, e4, e5, e71]
        by_cases a : S.1.2.2.1 = 3
        · rw [if_pos a] at hrx ⊢
          rw [hrx] at hq
          exact ⟨rfl, app (4, S.1.2.2.2.1) (fun z => by simp at z) K hq⟩
        rw [if_neg a] at hrx ⊢
        by_cases b : vr (ub L) S.1 = -1
        · rw [if_pos b]
          rw [if_neg (fun z => z b)] at hrx
          exact refuse 1 (by decide) hrx
        · rw [if_neg b]
          rw [if_pos b] at hrx
          rw [hrx] at hq
          refine ⟨rfl, app (5, vr (ub L) S.1) (fun _ => ?_) K hq⟩
          have hvr : vr (ub L) S.1 = -1 ∨ (0 ≤ vr (ub L) S.1 ∧ vr (ub L) S.1 < 9) := by
            unfold vr
            split
            · exact vch_rng _
            · exact Or.inl rfl
          exact hvr.resolve_left b
      have opens : (S.1.2.2.1 = 5 ∧ S.1.2.2.2.1 = 40) → d < 8 → ∀ l3, k4_readPart_53 h o d 1 l3 (vr (ub L) S.1) M K := by
        intro a hd l3
        rw [if_neg (fun z => by omega), if_pos a] at hrx
        rw [hrx] at hq
        have hf := alive (by omega)
        rw [if_pos hf] at hl
        apply k4_readPart_53_r ho (by omega)
        rw [if_neg (by decide), w32_id (show -2147483648 ≤ d + 1 ∧ d + 1 < 2147483648 by omega)]
        refine advance_r hC.1 hC.2.1 ⟨by omega, by omega⟩ (fun M1 f1 h1 => ?_)
        have c1 := hC.sc ho f1 h1
        have g1 := Gd.tk (u := ub L) (l := S.2) hS hl hf (by omega) (by omega)
        refine iA 0 (d + 1) (adv (ub L) N S.1, S.2) M1 _ (h - 1) (by decide) (by decide) (by omega) (by omega) (by omega) (by omega) g1.1 g1.2.2 c1 (fun M2 f2 c2 => ?_)
        have g2 := rx_Gd (u := ub L) f 0 (d + 1) (adv (ub L) N S.1, S.2) g1.1 g1.2.2
        refine expectMark_r c2.1 c2.2.1 g2.1 (fun M3 f3 h3 => ?_)
        exact hq M3 (((f1.mono (fun a i h => p7_E h)).trans f2).trans (f3.mono (fun a i h => p7_E h))) (c2.sc ho f3 h3)
      have negates : ¬ (S.1.2.2.1 = 5 ∧ S.1.2.2.2.1 = 40) → (S.1.2.2.1 = 4 ∧ S.1.2.2.2.1 = 1) → d < 8 → k4_readPart_53 h o d 0 1 (vr (ub L) S.1) M K := by
        intro n1 a hd
        rw [if_neg (fun z => by omega), if_neg n1, if_pos a] at hrx
        rw [hrx] at hq
        have hf := alive (by omega)
        rw [if_pos hf] at hl
        apply k4_readPart_53_r ho (by omega)
        rw [if_pos rfl, if_neg (by decide), e71, w32_id (show -2147483648 ≤ d + 1 ∧ d + 1 < 2147483648 by omega)]
        refine ⟨rfl, app (6, 0) (fun z => by simp at z) _ (fun M1 f1 c1 => ?_)⟩
        have g1 := Gd.tk (u := ub L) (l := S.2 ++ [(6, 0)]) hS hl hf (by omega) (by simp)
        exact iB (d + 1) (adv (ub L) N S.1, S.2 ++ [(6, 0)]) M1 _ (h - 1) (by omega) (by omega) (by omega) (by omega) g1.1 g1.2.2 c1 (fun M2 f2 c2 => hq M2 (f1.trans f2) c2)
      have deepR : ((S.1.2.2.1 = 5 ∧ S.1.2.2.2.1 = 40) ∨ (S.1.2.2.1 = 4 ∧ S.1.2.2.2.1 = 1)) → ¬ d < 8 → (if gI M 70 6 = 0 then K (upI (upI M 70 6 (w32 ((w32 (8 * (gI M 70 3))) + 2))) 70 4 1) else K M) := by
        intro a hd
        rw [if_pos ⟨a, by omega⟩] at hrx
        exact refuse 2 (by decide) hrx
      apply k4_readPart_r ho (by omega)
      rw [e4, e5]
      by_cases t5 : S.1.2.2.1 = 5
      · rw [if_pos t5]
        by_cases v40 : S.1.2.2.2.1 = 40
        · rw [if_pos v40, if_neg (by omega)]
          refine variable_r hC.1 hC.2.1 hS ?_
          by_cases hd : d < 8
          · rw [if_pos hd]; exact opens ⟨t5, v40⟩ hd 0
          · rw [if_neg hd]; exact deepR (Or.inl ⟨t5, v40⟩) hd
        · rw [if_neg v40, if_neg (by omega)]
          exact variable_r hC.1 hC.2.1 hS (plain (fun z => v40 z.2) (fun z => by omega))
      · rw [if_neg t5]
        by_cases t4 : S.1.2.2.1 = 4
        · rw [if_pos t4]
          by_cases v1 : S.1.2.2.2.1 = 1
          · rw [if_pos v1]
            refine variable_r hC.1 hC.2.1 hS ?_
            by_cases hd : d < 8
            · rw [if_pos hd]; exact negates (fun z => t5 z.1) ⟨t4, v1⟩ hd
            · rw [if_neg hd]; exact deepR (Or.inr ⟨t4, v1⟩) hd
          · rw [if_neg v1]
            exact variable_r hC.1 hC.2.1 hS (plain (fun z => t5 z.1) (fun z => v1 z.2))
        · rw [if_neg t4]
          exact variable_r hC.1 hC.2.1 hS (plain (fun z => t5 z.1) (fun z => t4 z.1))
    refine ⟨?_, hB⟩
    intro lev d S M K h l0 l3 d0 d8 hm hh hS hl hC hq
    have n6 := hC.1.2.1.2
    apply k4_readSides_r ho (by omega)
    by_cases h2 : lev ≤ 2
    case neg =>
      rw [if_neg h2]
      have e3 : lev = 3 := by omega
      subst e3
      exact hB d S M _ (h - 1) d0 d8 (by omega) (by omega) hS hl hC hq
    rw [if_pos h2, w32_id (show -2147483648 ≤ lev + 1 ∧ lev + 1 < 2147483648 by omega), hC.2.2.2.1]
    refine ⟨hC.2.2.1, ?_⟩
    have hrx : rx (ub L) N (f + 1) lev d S = lpf (rx (ub L) N f (lev + 1) d) (ub L) N lev S.2.length (if lev = 0 then 1 else 600) (rx (ub L) N f (lev + 1) d S) := by
      conv => lhs; unfold rx
      rw [if_pos h2]
    rw [hrx] at hq
    have loop : ∀ (n : Nat) (most i : Int) (S1 : Ps) (M1 : pm_M), i + n = most → 0 ≤ i → most ≤ 600 → Gd N S S1 → CSt L N o S1 M1 → Fr (pE o) M M1 → (∀ M', Fr (pE o) M M' → CSt L N o (lpf (rx (ub L) N f (lev + 1) d) (ub L) N lev S.2.length n S1) M' → K M') → k4_readSides_43 h o lev d (S.2.length : Int) most i M1 K := by
      intro n
      induction n with
      | zero =>
        intro most i S1 M1 hi i0 hmost g1 c1 f1 hq1
        apply k4_readSides_43_r ho (by omega)
        rw [if_neg (by omega)]
        exact hq1 M1 f1 c1
      | succ n ihn =>
        intro most i S1 M1 hi i0 hmost g1 c1 f1 hq1
        have hp1 := g1.1.1
        apply k4_readSides_43_r ho (by omega)
        rw [if_pos (by omega), c1.2.1.2.2.1, c1.2.1.2.2.2.1, c1.2.2.1, w32_id (show -2147483648 ≤ i + 1 ∧ i + 1 < 2147483648 by omega), w32_id (show -2147483648 ≤ lev + 1 ∧ lev + 1 < 2147483648 by omega)]
        have stop : ¬ (S1.1.2.2.1 = 4 ∧ lvl S1.1.2.2.2.1 = lev) → K M1 := by
          intro hno
          rw [lpf_stop hno] at hq1
          exact hq1 M1 f1 c1
        have go : (S1.1.2.2.1 = 4 ∧ lvl S1.1.2.2.2.1 = lev) → ((o : Int) = (o : Int) ∧ k0_insert o (S.2.length : Int) 7 S1.1.2.2.2.1 M1 (fun M7 => k7_advance M7 (fun M9 => k4_readSides (h - 1) o (lev + 1) d M9 (fun M11 => k4_readSides_43 h o lev d (S.2.length : Int) most (i + 1) M11 K)))) := by
          intro hs
          rw [lpf_next hs] at hq1
          have hf1 : S1.1.2.2.2.2 = 0 := by
            by_cases z : S1.1.2.2.2.2 = 0
            · exact z
            · have := g1.1.2.1 z; omega
          have hl1 := g1.2.2
          rw [if_pos hf1] at hl1
          have hi' := ins_len (x := (7, S1.1.2.2.2.1)) g1.2.1
          refine ⟨rfl, insAdv_r ho (x := (7, S1.1.2.2.2.1)) g1.2.1 (by omega) c1 g1.1 (fun z => by simp at z) (fun M2 f2 c2 => ?_)⟩
          have g2 := Gd.tk (u := ub L) (l := ins S1.2 S.2.length (7, S1.1.2.2.2.1)) g1.1 hl1 hf1 (by omega) (by omega)
          refine iA (lev + 1) d (adv (ub L) N S1.1, ins S1.2 S.2.length (7, S1.1.2.2.2.1)) M2 _ (h - 1) (by omega) (by omega) d0 d8 (by omega) (by omega) g2.1 g2.2.2 c2 (fun M3 f3 c3 => ?_)
          have g3 := rx_Gd (u := ub L) f (lev + 1) d (adv (ub L) N S1.1, ins S1.2 S.2.length (7, S1.1.2.2.2.1)) g2.1 g2.2.2
          have hle := g3.2.1
          have hle1 := g1.2.1
          simp only [] at hle
          exact ihn most (i + 1) _ M3 (by omega) (by omega) hmost ⟨g3.1, by omega, g3.2.2⟩ c3 ((f1.trans f2).trans f3) hq1
        by_cases a : S1.1.2.2.1 = 4
        case neg => rw [if_neg a]; exact stop (fun z => a z.1)
        rw [if_pos a]
        by_cases b : S1.1.2.2.2.1 < 5
        · rw [if_pos b]
          by_cases c : S1.1.2.2.2.1 < 2
          · rw [if_pos c]
            have hv : lvl S1.1.2.2.2.1 = 1 := by unfold lvl; rw [if_pos b, if_pos c]
            by_cases e : 1 = lev
            · rw [if_pos e]; exact go ⟨a, by rw [hv]; exact e⟩
            · rw [if_neg e]; exact stop (fun z => e (by rw [← hv]; exact z.2))
          · rw [if_neg c]
            have hv : lvl S1.1.2.2.2.1 = 2 := by unfold lvl; rw [if_pos b, if_neg c]
            by_cases e : 2 = lev
            · rw [if_pos e]; exact go ⟨a, by rw [hv]; exact e⟩
            · rw [if_neg e]; exact stop (fun z => e (by rw [← hv]; exact z.2))
        · rw [if_neg b]
          have hv : lvl S1.1.2.2.2.1 = 0 := by unfold lvl; rw [if_neg b]
          by_cases e : 0 = lev
          · rw [if_pos e]; exact go ⟨a, by rw [hv]; exact e⟩
          · rw [if_neg e]; exact stop (fun z => e (by rw [← hv]; exact z.2))
    refine iA (lev + 1) d S M _ (h - 1) (by omega) (by omega) d0 d8 (by omega) (by omega) hS hl hC (fun M1 f1 c1 => ?_)
    have g1 := rx_Gd (u := ub L) f (lev + 1) d S hS hl
    by_cases e0 : lev = 0
    · rw [if_pos e0] at hq ⊢
      exact loop 1 1 0 _ M1 (by decide) (by decide) (by decide) g1 c1 f1 hq
    · rw [if_neg e0] at hq ⊢
      exact loop 600 600 0 _ M1 (by decide) (by decide) (by decide) g1 c1 f1 hq

/-! the other reader: a statement's head and its expression -/
/-- behind a statement's expression -/
def Tl (c h : Nat) (l2 l4 l5 k : Int) (M2 : pm_M) (K : Int → pm_M → Prop) : Prop := (if l5 = (-1) then (if l4 = 0 then (∃ c9 c10 : Nat, c9 + c10 ≤ c ∧ k12_block c9 (h - 1) 150 k M2 (fun r8 M7 => (if r8 = 0 then ((r8 = 0 ∨ r8 = 1) ∧ K r8 M7) else (if l2 = 0 then ((r8 = 0 ∨ r8 = 1) ∧ K r8 M7) else (∃ c18 c19 : Nat, c18 + c19 ≤ c10 ∧ k12_isWord c18 101 108 115 101 0 0 M7 (fun r17 M16 => (if r17 = 0 then ((r8 = 0 ∨ r8 = 1) ∧ K r8 M16) else k12_go M16 (fun M23 => (∃ c27 c28 : Nat, c27 + c28 ≤ c19 ∧ k12_block c27 (h - 1) 151 k M23 (fun r26 M25 => ((r26 = 0 ∨ r26 = 1) ∧ K r26 M25))))))))))) else k12_sign 59 M2 (fun r32 M31 => ((r32 = 0 ∨ r32 = 1) ∧ K r32 M31))) else k12_sign 59 M2 (fun r35 M34 => ((r35 = 0 ∨ r35 = 1) ∧ K r35 M34)))
theorem pnd_blk {pl p : Int} {M : pm_M} {K : Int → pm_M → Prop} {c h o : Nat} (ho : o = 150 ∨ o = 151) (hh : 151 ≤ h) (hP : Pnd M pl) (hK : K 0 (upI M 142 8 (8 * pl + 1))) : k12_block c h o p M K := by
  apply k12_block_r ho hh
  rw [hP.1, if_neg (by decide), hP.2.1, if_pos rfl, hP.2.2.1, bad_w hP.2.2.2 1 (by decide)]
  exact hK
theorem tl_pnd {pl k l2 l4 l5 : Int} {M : pm_M} {K : Int → pm_M → Prop} {c h : Nat} (hh : 152 ≤ h) (hP : Pnd M pl) (hK : K 0 (upI M 142 8 (8 * pl + 1))) : Tl c h l2 l4 l5 k M K := by
  unfold Tl
  by_cases a : l5 = -1
  · rw [if_pos a]
    by_cases b : l4 = 0
    · rw [if_pos b]
      refine ⟨c, 0, by omega, pnd_blk (Or.inl rfl) (by omega) hP ?_⟩
      rw [if_pos rfl]; exact ⟨Or.inl rfl, hK⟩
    · rw [if_neg b]; exact pnd_sign hP ⟨Or.inl rfl, hK⟩
  · rw [if_neg a]; exact pnd_sign hP ⟨Or.inl rfl, hK⟩
/-- a statement's own rows -/
def HF (M : pm_M) (k par : Int) : Prop := gI M 147 (100 + k) = par ∧ gI M 148 (100 + k) = k + 1 ∧ gI M 150 (100 + k) = -1 ∧ gI M 151 (100 + k) = -1 ∧ gI M 152 (100 + k) = -1
def HC (M : pm_M) (n dep : Int) : Prop := gI M 142 19 = n ∧ gI M 142 21 = dep
theorem LV.u148 {L : Int → Int} {N d v : Int} {S : Ps} {M : pm_M} {k : Nat} (h : LV L N d S M) (hv : v ≤ (S.2.length : Int)) : LV L N d S (upI M 148 (100 + (k : Int)) v) := by
  obtain ⟨⟨t, r, n⟩, w, e8, e20, q⟩ := h
  have ne : ∀ a i, a ≠ 148 → gI (upI M 148 (100 + (k : Int)) v) a i = gI M a i := fun a i z => gI_ne _ _ _ _ z
  refine ⟨⟨t.fr (p := fun a _ => a == 148) (Fr.rf.up _ rfl) rfl (fun _ => rfl), ?_, ⟨by rw [ne _ _ (by decide)]; exact n.1, fun i hi => by rw [ne _ _ (by decide), ne _ _ (by decide)]; exact n.2 i hi⟩⟩, fun i hi => ?_, by rw [ne _ _ (by decide)]; exact e8, by rw [ne _ _ (by decide)]; exact e20, q⟩
  · unfold Hr; rw [ne _ _ (by decide), ne _ _ (by decide), ne _ _ (by decide), ne _ _ (by decide)]; exact r
  · have := w i hi
    rw [ne 147 _ (by decide), ne 149 _ (by decide)]
    refine ⟨this.1, ?_, this.2.2⟩
    rw [gI_up _ _ (by omega) (by omega)]
    split
    · exact hv
    · exact this.2.1
theorem st170_pnd {L : Int → Int} {N pl l2 l4 l5 : Int} {k : Nat} {M : pm_M} {K : Int → pm_M → Prop} {c h : Nat} (hh : 151 ≤ h) (hk : k < 650) (hT : TpR L N M) (hP : Pnd M pl) (hK : ∀ M', Fr (qS 0) M M' → gI M' 142 8 = 8 * pl + 1 → K 0 M') : k12_statement_170 c h l2 l4 l5 (k : Int) M K := by
  apply k12_statement_170_r hh
  have wk : w32 (100 + (k : Int)) = 100 + (k : Int) := w32_id (by omega)
  rw [wk]
  refine ⟨⟨by omega, by omega⟩, ?_⟩
  have f1 : Fr (qS 0) M (upI M 148 (100 + (k : Int)) (gI M 142 18)) := Fr.rf.up _ (by simp [qS, qE]; omega)
  have ne : ∀ i, gI (upI M 148 (100 + (k : Int)) (gI M 142 18)) 142 i = gI M 142 i := fun i => gI_ne _ _ _ _ (by decide)
  have t1 : TpR L N (upI M 148 (100 + (k : Int)) (gI M 142 18)) := hT.fr (p := fun a _ => a == 148) (Fr.rf.up _ rfl) rfl (fun _ => rfl)
  generalize upI M 148 (100 + (k : Int)) (gI M 142 18) = M1 at *
  refine pnd_e (pl := pl) (by decide) t1 ⟨by rw [ne]; exact hP.1, by rw [ne]; exact hP.2.1, by rw [ne]; exact hP.2.2.1, hP.2.2.2⟩ ?_
  rw [if_pos rfl]
  exact hK _ (f1.up _ (by simp [qS, qE])) (gI_eq _ _ _ _)
theorem st170_r {L : Int → Int} {N dep par l2 l5 : Int} {k : Nat} {S : Ps} {M0 M : pm_M} {K : Int → pm_M → Prop} {c h : Nat} (hh : 152 ≤ h) (hk : k < 650) (hlv : LV L N 0 S M) (hl : S.2.length = k + 1) (fr : Fr (qS k) M0 M) (hc : HC M (dep : Int) par) (h7 : gI M 147 (100 + (k : Int)) = l2) (h0 : gI M 150 (100 + (k : Int)) = -1) (h1 : gI M 151 (100 + (k : Int)) = -1) (h2 : gI M 152 (100 + (k : Int)) = -1) {b2 b4 : Int}
    (hA : (rx (ub L) N 36 0 0 S).1.2.2.2.2 = 0 → ∀ M', Fr (qS k) M0 M' → LV L N 0 (rx (ub L) N 36 0 0 S) M' → HC M' dep par → HF M' (k : Int) l2 → XBh M' (k : Int) (((rx (ub L) N 36 0 0 S).2.length : Int) - 1) → Tl c h b2 b4 l5 (k : Int) M' K)
    (hD : ¬ (rx (ub L) N 36 0 0 S).1.2.2.2.2 = 0 → ∀ M', Fr (qS 0) M0 M' → gI M' 142 8 = (rx (ub L) N 36 0 0 S).1.2.2.2.2 → K 0 M') : k12_statement_170 c h b2 b4 l5 (k : Int) M K := by
  apply k12_statement_170_r (by omega)
  have wk : w32 (100 + (k : Int)) = 100 + (k : Int) := w32_id (by omega)
  have e18 : gI M 142 18 = (k : Int) + 1 := by rw [hlv.1.2.2.1, hl]; rfl
  rw [wk, e18]
  refine ⟨⟨by omega, by omega⟩, ?_⟩
  have lv1 : LV L N 0 S (upI M 148 (100 + (k : Int)) ((k : Int) + 1)) := hlv.u148 (by rw [hl]; exact Int.le_refl _)
  have f1 : Fr (qS k) M0 (upI M 148 (100 + (k : Int)) ((k : Int) + 1)) := fr.up _ (by simp [qS, qE]; omega)
  have e8 : gI (upI M 148 (100 + (k : Int)) ((k : Int) + 1)) 148 (100 + (k : Int)) = (k : Int) + 1 := gI_eq _ _ _ _
  have ne : ∀ a i, a ≠ 148 → gI (upI M 148 (100 + (k : Int)) ((k : Int) + 1)) a i = gI M a i := fun a i z => gI_ne _ _ _ _ z
  generalize upI M 148 (100 + (k : Int)) ((k : Int) + 1) = M1 at *
  refine (rqAll (L := L) (N := N) 36).2.2.2 0 S M1 _ 150 (k : Int) (by decide) (by decide) (by decide) (by decide) lv1 (by rw [hl]; omega) ⟨fun z M' f' lv' a7 hX => ?_, fun z => ⟨fun M' f' e' => ?_, fun M' f' t' p' e' => ?_⟩⟩
  · rw [hl] at f' hX a7
    have f'' : Fr (qS k) M0 M' := f1.trans (f'.mono (fun a i y => qS_mono (Nat.le_succ _) (qE_S y)))
    show (if (1 : Int) = 0 then _ else _)
    rw [if_neg (by decide)]
    refine hA z M' f'' lv' ⟨?_, ?_⟩ ⟨?_, ?_, ?_, ?_, ?_⟩ ⟨a7, hX⟩
    · rw [f'.g rfl, ne _ _ (by decide)]; exact hc.1
    · rw [f'.g rfl, ne _ _ (by decide)]; exact hc.2
    · rw [f'.g (by simp [qE]; omega), ne _ _ (by decide)]; exact h7
    · rw [f'.g (by simp [qE]; omega)]; exact e8
    · rw [f'.g (by simp [qE]; omega), ne _ _ (by decide)]; exact h0
    · rw [f'.g (by simp [qE]; omega), ne _ _ (by decide)]; exact h1
    · rw [f'.g (by simp [qE]; omega), ne _ _ (by decide)]; exact h2
  · show (if (0 : Int) = 0 then _ else _)
    rw [if_pos rfl]
    exact hD z M' ((f1.mono (fun a i y => qS_mono (Nat.zero_le _) y)).trans (f'.mono (fun a i y => qS_mono (Nat.zero_le _) (qE_S y)))) e'
  · show (if (1 : Int) = 0 then _ else _)
    rw [if_neg (by decide)]
    refine tl_pnd (by omega) p' (hD z _ (((f1.mono (fun a i y => qS_mono (Nat.zero_le _) y)).trans (f'.mono (fun a i y => qS_mono (Nat.zero_le _) (qE_S y)))).up _ (by simp [qS, qE])) ?_)
    rw [gI_eq]; exact e'.symm

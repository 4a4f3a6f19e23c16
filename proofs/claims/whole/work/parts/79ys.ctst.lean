/-! tests: the first reader -/
def CTb (L : Int → Int) (N : Int) (o : Nat) (s : Sc) (M : pm_M) : Prop := TpC L N M ∧ Hs s M ∧ gI M 72 1 = (o : Int) ∧ 0 ≤ gI M o 1 ∧ gI M o 1 ≤ 16
def hcl : List TRow → Int
  | [] => 0
  | t :: l => t.2.2.2.2 + hcl l
theorem hcl_app {l : List TRow} {t : TRow} : hcl (l ++ [t]) = hcl l + t.2.2.2.2 := by
  induction l with
  | nil => show t.2.2.2.2 + 0 = 0 + t.2.2.2.2; omega
  | cons a l ih => show a.2.2.2.2 + hcl (l ++ [t]) = a.2.2.2.2 + hcl l + t.2.2.2.2; omega
def zT : TRow := (0, 0, 0, 0, 0)
def CSu (o : Nat) (l : List TRow) (M : pm_M) : Prop := gI M o 1 = (l.length : Int) ∧ gI M o 2 = hcl l ∧ ∀ i : Nat, i < l.length → gI M (o + 2 + i) 0 = (l.getD i zT).1 ∧ gI M (o + 2 + i) 1 = (l.getD i zT).2.1 ∧ gI M (o + 2 + i) 2 = (l.getD i zT).2.2.1 ∧ gI M (o + 2 + i) 3 = (l.getD i zT).2.2.2.1 ∧ gI M (o + 2 + i) 4 = (l.getD i zT).2.2.2.2
def pT (o a i : Nat) : Bool := p7 a i || (a == o && (i == 1 || i == 2)) || (o + 2 ≤ a && a ≤ o + 17)
theorem p7_T {o a i : Nat} (h : p7 a i = true) : pT o a i = true := by simp only [pT, h, Bool.true_or]
theorem CTb.sc {L : Int → Int} {N : Int} {o : Nat} (ho : o = 18 ∨ o = 52) {s s' : Sc} {M M' : pm_M} (h : CTb L N o s M) (f : Fr p7 M M') (hs : Hs s' M') : CTb L N o s' M' := ⟨h.1.fr f rfl (fun _ => rfl), hs, by rw [f.g rfl]; exact h.2.2.1, by rw [f.g (by simp [p7] <;> omega)]; exact h.2.2.2.1, by rw [f.g (by simp [p7] <;> omega)]; exact h.2.2.2.2⟩
theorem CSu.fr {o : Nat} (ho : o = 18 ∨ o = 52) {l : List TRow} {M M' : pm_M} (h : CSu o l M) (h16 : l.length ≤ 16) (f : Fr p7 M M') : CSu o l M' := by
  refine ⟨?_, ?_, fun i hi => ?_⟩
  · rw [f.g (by simp [p7] <;> omega)]; exact h.1
  · rw [f.g (by simp [p7] <;> omega)]; exact h.2.1
  · rw [f.g (by simp [p7] <;> omega), f.g (by simp [p7] <;> omega), f.g (by simp [p7] <;> omega), f.g (by simp [p7] <;> omega), f.g (by simp [p7] <;> omega)]; exact h.2.2 i hi
/-- on, past a token that may be refused -/
theorem crefAdv {L : Int → Int} {N : Int} {s : Sc} {M : pm_M} {K : pm_M → Prop} {c : Prop} [Decidable c] (hT : TpC L N M) (hs : Hs s M) (hS : SK N s) (hq : ∀ M', Fr p7 M M' → Hs (adv (ub L) N (if c then s else refu s 1)) M' → K M') : (if c then k7_advance M K else (if gI M 70 6 = 0 then k7_advance (upI (upI M 70 6 (w32 ((w32 (8 * (gI M 70 3))) + 1))) 70 4 1) K else k7_advance M K)) := by
  have hp := hS.1
  have n6 := hT.2.1.2
  by_cases a : c
  · rw [if_pos a] at hq ⊢
    exact advance_r hT hs ⟨by omega, by omega⟩ hq
  rw [if_neg a] at hq ⊢
  rw [hs.2.2.2.2, hs.2.1, refuse_w n6 hS 1 (by decide)]
  by_cases z : s.2.2.2.2 = 0
  · rw [if_pos z]
    have f1 : Fr p7 M (upI (upI M 70 6 (8 * s.2.1 + 1)) 70 4 1) := (Fr.rf.up _ rfl).up _ rfl
    have hr := (hS.refuk (k := 1) (by decide)).1
    exact advance_r (hT.fr f1 rfl (fun _ => rfl)) (hs.up6 z 1) ⟨by omega, by omega⟩ (fun M2 f2 h2 => hq M2 (f1.trans f2) h2)
  · rw [if_neg z]
    rw [refu_dead z] at hq
    exact advance_r hT hs ⟨by omega, by omega⟩ hq
theorem cnum_r {L : Int → Int} {N : Int} {s : Sc} {M : pm_M} {K : Int → pm_M → Prop} (hT : TpC L N M) (hs : Hs s M) (hS : SK N s) (hq : ∀ M', Fr p7 M M' → Hs (tnS (ub L) N s) M' → K (tnV (ub L) N s) M') : k9_readNumber M K := by
  have hp := hS.1
  apply k9_readNumber_r
  rw [hs.2.2.1, hs.2.2.2.1]
  have plain : ¬ (s.2.2.1 = 4 ∧ s.2.2.2.1 = 1) → (if s.2.2.1 = 3 then k7_advance M (fun M14 => K s.2.2.2.1 M14) else (if gI M 70 6 = 0 then k7_advance (upI (upI M 70 6 (w32 ((w32 (8 * (gI M 70 3))) + 1))) 70 4 1) (fun M17 => K s.2.2.2.1 M17) else k7_advance M (fun M19 => K s.2.2.2.1 M19))) := by
    intro hno
    have eA : tnA (ub L) N s = s := by unfold tnA; rw [if_neg hno]
    have eV : tnV (ub L) N s = s.2.2.2.1 := by unfold tnV; rw [if_neg hno, eA]
    have eS : tnS (ub L) N s = adv (ub L) N (if s.2.2.1 = 3 then s else refu s 1) := by unfold tnS; rw [eA]
    rw [eV, eS] at hq
    exact crefAdv hT hs hS hq
  by_cases a : s.2.2.1 = 4
  · rw [if_pos a]
    by_cases b : s.2.2.2.1 = 1
    · rw [if_pos b]
      have eA : tnA (ub L) N s = adv (ub L) N s := by unfold tnA; rw [if_pos ⟨a, b⟩]
      have eV : tnV (ub L) N s = w32 (-(adv (ub L) N s).2.2.2.1) := by unfold tnV; rw [if_pos ⟨a, b⟩, eA]
      have eS : tnS (ub L) N s = adv (ub L) N (if (adv (ub L) N s).2.2.1 = 3 then adv (ub L) N s else refu (adv (ub L) N s) 1) := by unfold tnS; rw [eA]
      rw [eV, eS] at hq
      refine advance_r hT hs ⟨by omega, by omega⟩ (fun M1 f1 h1 => ?_)
      rw [h1.2.2.1, h1.2.2.2.1]
      have t1' : TpC L N M1 := hT.fr f1 rfl (fun _ => rfl)
      exact crefAdv t1' h1 hS.advk (fun M2 f2 h2 => hq M2 (f1.trans f2) h2)
    · rw [if_neg b]; exact plain (fun z => b z.2)
  · rw [if_neg a]; exact plain (fun z => a z.1)
theorem cxw_r {L : Int → Int} {N tx : Int} {s : Sc} {M : pm_M} {K : pm_M → Prop} (htx : 3 ≤ tx ∧ tx ≤ 9) (hT : TpC L N M) (hs : Hs s M) (hS : SK N s) (hq : ∀ M', Fr p7 M M' → Hs (txW (ub L) N (pm_txt tx.toNat) s) M' → K M') : k7_expectWord tx M K := by
  apply k7_expectWord_r (by omega)
  refine cword_r htx hT hs hS ?_
  have h := crefAdv (c := wdb (ub L) s (pm_txt tx.toNat) = true) hT hs hS hq
  by_cases c : wdb (ub L) s (pm_txt tx.toNat) = true
  · rw [if_pos c] at h ⊢
    rw [if_neg (by decide)]; exact h
  · rw [if_neg c] at h ⊢
    rw [if_pos rfl]; exact h
/-- a test put in -/
theorem cadd_r {o : Nat} (ho : o = 18 ∨ o = 52) {t : TRow} {M : pm_M} {K : pm_M → Prop} (h0 : 0 ≤ gI M o 1 ∧ gI M o 1 ≤ 16) (h5 : t.2.2.2.2 = 0 ∨ t.2.2.2.2 = 1) (hq : ∀ M', Fr (fun a i => (a == o && (i == 1 || i == 2)) || (o + 2 ≤ a && a ≤ o + 17)) M M' → (0 ≤ gI M' o 1 ∧ gI M' o 1 ≤ 16) → (∀ l : List TRow, l.length < 16 → hcl l ≤ 16 → -1 ≤ hcl l → CSu o l M → CSu o (l ++ [t]) M') → K M') : k8_add o t.1 t.2.1 t.2.2.1 t.2.2.2.1 t.2.2.2.2 M K := by
  apply k8_add_r ho
  by_cases c : gI M o 1 < 16
  case neg =>
    rw [if_neg c]
    exact hq M Fr.rf h0 (fun l hl _ _ h => absurd h.1 (by omega))
  rw [if_pos c]
  refine ⟨⟨h0.1, c⟩, ?_⟩
  have w1 : w32 ((gI M o 1) + 1) = gI M o 1 + 1 := w32_id (by omega)
  obtain ⟨r, hr⟩ : ∃ r : Nat, r = o + 2 + (gI M o 1).toNat := ⟨_, rfl⟩
  rw [← hr, w1]
  have hr1 : o + 2 ≤ r ∧ r ≤ o + 17 := by omega
  have put : ∀ v, v = t.2.2.2.2 → K (upI (upI (upI (upI (upI (upI (upI M r 0 t.1) r 1 t.2.1) r 2 t.2.2.1) r 3 t.2.2.2.1) r 4 v) o 2 (w32 ((gI M o 2) + v))) o 1 (gI M o 1 + 1)) := by
    intro v hv
    subst hv
    have ne : r ≠ o := by omega
    obtain ⟨A, hA⟩ : ∃ A, A = upI (upI (upI (upI (upI (upI (upI M r 0 t.1) r 1 t.2.1) r 2 t.2.2.1) r 3 t.2.2.2.1) r 4 t.2.2.2.2) o 2 (w32 ((gI M o 2) + t.2.2.2.2))) o 1 (gI M o 1 + 1) := ⟨_, rfl⟩
    rw [← hA]
    have rr : ∀ i, (fun a i => (a == o && (i == 1 || i == 2)) || (decide (o + 2 ≤ a) && decide (a ≤ o + 17))) r i = true := fun i => by simp; omega
    have fA : Fr (fun a i => (a == o && (i == 1 || i == 2)) || (o + 2 ≤ a && a ≤ o + 17)) M A := by
      rw [hA]
      exact ((((((Fr.rf.up _ (rr _)).up _ (rr _)).up _ (rr _)).up _ (rr _)).up _ (rr _)).up _ (by simp)).up _ (by simp)
    have a1 : gI A o 1 = gI M o 1 + 1 := by rw [hA, gI_eq]
    have a2 : gI A o 2 = w32 ((gI M o 2) + t.2.2.2.2) := by rw [hA, gI_nf _ _ (by decide), gI_eq]
    have b0 : gI A r 0 = t.1 := by rw [hA, gI_ne _ _ _ _ ne, gI_ne _ _ _ _ ne, gI_nf _ _ (by decide), gI_nf _ _ (by decide), gI_nf _ _ (by decide), gI_nf _ _ (by decide), gI_eq]
    have b1 : gI A r 1 = t.2.1 := by rw [hA, gI_ne _ _ _ _ ne, gI_ne _ _ _ _ ne, gI_nf _ _ (by decide), gI_nf _ _ (by decide), gI_nf _ _ (by decide), gI_eq]
    have b2 : gI A r 2 = t.2.2.1 := by rw [hA, gI_ne _ _ _ _ ne, gI_ne _ _ _ _ ne, gI_nf _ _ (by decide), gI_nf _ _ (by decide), gI_eq]
    have b3 : gI A r 3 = t.2.2.2.1 := by rw [hA, gI_ne _ _ _ _ ne, gI_ne _ _ _ _ ne, gI_nf _ _ (by decide), gI_eq]
    have b4 : gI A r 4 = t.2.2.2.2 := by rw [hA, gI_ne _ _ _ _ ne, gI_ne _ _ _ _ ne, gI_eq]
    have oth : ∀ a i, a ≠ r → a ≠ o → gI A a i = gI M a i := fun a i q1 q2 => by rw [hA, gI_ne _ _ _ _ q2, gI_ne _ _ _ _ q2, gI_ne _ _ _ _ q1, gI_ne _ _ _ _ q1, gI_ne _ _ _ _ q1, gI_ne _ _ _ _ q1, gI_ne _ _ _ _ q1]
    clear hA
    refine hq A fA ⟨by omega, by omega⟩ (fun l hl hh hh' cs => ?_)
    obtain ⟨c1, c2, c3⟩ := cs
    have ll : (l ++ [t]).length = l.length + 1 := by rw [List.length_append]; rfl
    refine ⟨by rw [a1, c1, ll]; omega, by rw [a2, c2, hcl_app, w32_id (by omega)], fun i hi => ?_⟩
    rw [ll] at hi
    by_cases e : i = l.length
    · have er : o + 2 + i = r := by rw [hr, c1, Int.toNat_natCast, e]
      have eg : (l ++ [t]).getD i zT = t := by rw [e, gdB (Nat.le_refl _), Nat.sub_self]; rfl
      rw [er, eg]
      exact ⟨b0, b1, b2, b3, b4⟩
    · have ne' : o + 2 + i ≠ r := by rw [hr, c1, Int.toNat_natCast]; omega
      rw [gdA (by omega), oth _ _ ne' (by omega), oth _ _ ne' (by omega), oth _ _ ne' (by omega), oth _ _ ne' (by omega), oth _ _ ne' (by omega)]
      exact c3 i (by omega)
  by_cases z : t.2.2.2.2 = 0
  · rw [if_pos z]; exact put 0 z.symm
  · rw [if_neg z]; exact put 1 (h5.resolve_left z).symm

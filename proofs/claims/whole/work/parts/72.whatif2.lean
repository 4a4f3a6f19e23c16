-- needs 30 31 32 33a 33b 33c 33d 33e 33f 33g 33h 33i 33j 40 41 42 43 44 45 46 50 51 52 53 54 55 56 57 58 59 60 61 63 64 65 66 71
/-! the reference's values; askings turned round on both sides -/
def qVal (a i : Nat) : Bool := qRun a i || qPut a i
theorem qVal_rb {P : Pg} {F : Fo} {T : Ts} {nT : Int} {M M' : pm_M} (f : Fr qVal M M') (hB : RB P F T nT M) : RB P F T nT M' := hB.fr f (fun a i a1 a2 => by simp [qVal, qRun, qPut]; omega) ⟨rfl, rfl, rfl, rfl, rfl⟩
theorem rvalues_r {P : Pg} {F : Fo} {T : Ts} {nT : Int} (hW : WF P) {M : pm_M} {K : Int → pm_M → Prop} {n w : Int} (hn : 0 ≤ n ∧ n < P 2 15) (h4 : P 3 n = 4) (hB : RB P F T nT M) (hw : 0 ≤ w ∧ w ≤ 3)
    (hq : ∀ M', Fr qVal M M' → K (if w = 0 then (vst P F T nT n 199).1 else if w = 1 then (vst P F T nT n 199).2.1 else if w = 2 then (vst P F T nT n 199).2.2.1 else (vst P F T nT n 199).2.2.2) M') : k12_values_73 n w (P 4 n) 0 (-200) (-200) (-200) (-99) M K := by
  have h60 := hW.le
  have hp0 : 0 < P 2 15 := by omega
  have loop : ∀ (d k : Nat) (M2 : pm_M), k + d = 199 → Fr qVal M M2 → k12_values_73 n w (P 4 n) (vst P F T nT n k).1 (vst P F T nT n k).2.1 (vst P F T nT n k).2.2.1 (vst P F T nT n k).2.2.2 (-99 + (k : Int)) M2 K := by
    intro d
    induction d with
    | zero =>
      intro k M2 hd f2
      have ek : k = 199 := by omega
      subst ek
      have hK := hq M2 f2
      apply k12_values_73_r
      rw [if_neg (by omega)]
      by_cases w0 : w = 0
      · rw [if_pos w0] at hK ⊢; exact hK
      rw [if_neg w0] at hK ⊢
      by_cases w1 : w = 1
      · rw [if_pos w1] at hK ⊢; exact hK
      rw [if_neg w1] at hK ⊢
      by_cases w2 : w = 2
      · rw [if_pos w2] at hK ⊢; exact hK
      rw [if_neg w2] at hK ⊢; exact hK
    | succ d ih =>
      intro k M2 hd f2
      have b2 := qVal_rb f2 hB
      obtain ⟨q3, q4, ⟨q7, q7', q5⟩, -, -, -, -⟩ := b2.1.2.2 n hn.1 hn.2
      have hWv := hW.val (n := n) (v := -99 + (k : Int)) (m := P 5 n) hn h4 ⟨by omega, by omega⟩
      have kk : -99 + ((k + 1 : Nat) : Int) = -99 + (k : Int) + 1 := by omega
      obtain ⟨v0, v1, v2⟩ := vst_le (P := P) (F := F) (T := T) (nT := nT) (n := n) k
      apply k12_values_73_r
      rw [if_pos (by omega), w32_id (show -2147483648 ≤ -99 + (k : Int) + 1 ∧ -99 + (k : Int) + 1 < 2147483648 by omega), w32_id (show -2147483648 ≤ (vst P F T nT n k).1 + 1 ∧ (vst P F T nT n k).1 + 1 < 2147483648 by omega)]
      refine ⟨⟨hn.1, by omega⟩, ?_⟩
      -- the value put in
      have b3 : RB (pset P n (-99 + (k : Int)) (P 5 n)) F T nT (put0 M2 n (-99 + (k : Int)) (gI M2 153 n)) := by
        unfold put0
        have f1 : Fr qPut M2 (upI (upI (upI M2 162 0 n) 163 0 (gI M2 146 n)) 164 0 (gI M2 153 n)) := ((Fr.rf.up _ rfl).up _ rfl).up _ rfl
        have hB1 := b2.fr f1 (fun a i a1 a2 => by simp [qPut]; omega) ⟨rfl, rfl, rfl, rfl, rfl⟩
        generalize upI (upI (upI M2 162 0 n) 163 0 (gI M2 146 n)) 164 0 (gI M2 153 n) = M1 at *
        obtain ⟨a1, ⟨b1, b2, b3, b4⟩, ⟨c1, c2, c3⟩, d1⟩ := hB1
        refine ⟨rp_set h60 a1 hn (fun _ => rfl) q7 q7' q5, ⟨?_, ?_, ?_, b4⟩, ⟨?_, c2, ?_⟩, ?_⟩
        · rw [gI_ne _ _ _ _ (by decide), gI_ne _ _ _ _ (by decide)]; exact b1
        · rw [gI_ne _ _ _ _ (by decide), gI_ne _ _ _ _ (by decide)]; exact b2
        · rw [gI_ne _ _ _ _ (by decide), gI_ne _ _ _ _ (by decide)]; exact b3
        · rw [gI_ne _ _ _ _ (by decide), gI_ne _ _ _ _ (by decide)]; exact c1
        · intro t j t0 t1 j0 j1; rw [gI_ne _ _ _ _ (by decide), gI_ne _ _ _ _ (by decide)]; exact c3 t j t0 t1 j0 j1
        · rw [gI_ne _ _ _ _ (by decide), gI_ne _ _ _ _ (by decide)]; exact d1
      have back : ∀ M3, Qf (put0 M2 n (-99 + (k : Int)) (gI M2 153 n)) M3 → gI M3 162 0 = n ∧ gI M3 163 0 = gI M2 146 n ∧ gI M3 164 0 = gI M2 153 n ∧ Fr qVal M (upI (upI M3 146 n (gI M2 146 n)) 153 n (gI M2 153 n)) := by
        intro M3 hQ
        obtain ⟨r1, r2, r3, r4⟩ := rback hQ.fr (fun a i h => by simp [qRun]; omega)
        exact ⟨r1, r2, r3, f2.trans r4⟩
      refine allPass_r (P := pset P n (-99 + (k : Int)) (P 5 n)) (F := F) (T := T) (nT := nT) hWv.r hWv.s hWv.t (show 0 < P 2 15 from hp0) b3.1 b3.2.1 b3.2.2.1 ?_ ?_
      · intro ha M3 hQ
        obtain ⟨r1, r2, r3, r4⟩ := back M3 hQ
        rw [r1, r2, r3]
        refine ⟨⟨hn.1, by omega⟩, ⟨hn.1, by omega⟩, ?_⟩
        rw [if_neg (by decide)]
        have hi := ih (k + 1) _ (by omega) r4
        rw [kk, vst_yes ha] at hi
        by_cases m0 : (vst P F T nT n k).1 = 0
        · rw [if_pos m0] at hi ⊢; exact hi
        · rw [if_neg m0] at hi ⊢
          show (if abn (-99 + (k : Int)) (P 4 n) < abn (vst P F T nT n k).2.2.2 (P 4 n) then _ else _)
          by_cases hl : abn (-99 + (k : Int)) (P 4 n) < abn (vst P F T nT n k).2.2.2 (P 4 n)
          · rw [if_pos hl] at hi ⊢; exact hi
          · rw [if_neg hl] at hi ⊢; exact hi
      · intro ha M3 hQ
        obtain ⟨r1, r2, r3, r4⟩ := back M3 hQ
        rw [r1, r2, r3]
        refine ⟨⟨hn.1, by omega⟩, ⟨hn.1, by omega⟩, ?_⟩
        rw [if_pos rfl]
        have hi := ih (k + 1) _ (by omega) r4
        rw [kk, vst_no ha] at hi
        exact hi
  exact loop 199 0 M rfl Fr.rf
def Fz : Fo := (-1, 0, -1)
/-- the first asking that turned round makes a test pass -/
noncomputable def flq (P : Pg) (T : Ts) (t k : Int) : Option Int := if okT P (-1, 0, k) T t = 1 then some k else none
noncomputable def flA (P : Pg) (T : Ts) (t : Int) : Int := (o1 (flq P T t) ((runP P Fz (T t)).2.2.2.2.1).toNat).getD (-2)
theorem o1_next {α : Type} {q : Int → Option α} {m : Nat} (h : o1 q m = none) : o1 q (m + 1) = q (m : Int) := by
  show (match o1 q m with | some x => some x | none => q (m : Int)) = _
  rw [h]
theorem flip_pure {P : Pg} {T : Ts} {t : Int} {m : Int} (k : Nat) : o1 (flq P T t) k = none → (flq P T t (k : Int) = none → o1 (flq P T t) (k + 1) = none) ∧ (∀ x, flq P T t (k : Int) = some x → o1 (flq P T t) (k + 1) = some x) := by
  intro h
  have hd := o1_next h
  exact ⟨fun z => by rw [hd]; exact z, fun x z => by rw [hd]; exact z⟩
theorem o1_stay {α : Type} {q : Int → Option α} {x : α} : ∀ (m k : Nat), k ≤ m → o1 q k = some x → o1 q m = some x := by
  intro m
  induction m with
  | zero => intro k hk h; have : k = 0 := by omega
            subst this; exact h
  | succ m ih =>
    intro k hk h
    by_cases e : k = m + 1
    · subst e; exact h
    · show (match o1 q m with | some x => some x | none => q (m : Int)) = some x
      rw [ih k (by omega) h]
def pFlip (a i : Nat) : Bool := pRun a i || (a == 73 && i == 12)
theorem mendingAsking_r {P : Pg} {T : Ts} {nT : Int} (hW : WF P) {M : pm_M} {K : Int → pm_M → Prop} {t : Int} (t0 : 0 ≤ t) (t1 : t < nT) (hS : Sm P M) (hF : Fm Fz M) (hT : CT T nT M) (hk : gI M 81 t = (runP P Fz (T t)).2.2.2.2.1)
    (hq : ∀ M', Fr pFlip M M' → Fm Fz M' → K (flA P T t) M') : k10_mendingAsking t M K := by
  have hnT := hT.2.1
  have hok := runP_ok (P := P) (F := Fz) (r := T t)
  obtain ⟨A, hA⟩ : ∃ A : Int, A = (runP P Fz (T t)).2.2.2.2.1 := ⟨_, rfl⟩
  have A0 : 0 ≤ A := by rw [hA]; exact hok.2.1
  have A1 : A ≤ 300 := by have := hok.1; have := hok.2.2; omega
  have fin : ∀ M2, Fr pFlip M M2 → Fm Fz (upI M2 73 12 (-1)) := fun M2 f => ⟨by rw [gI_nf _ _ (by decide), f.g rfl]; exact hF.1, fun z => absurd z (by decide), gI_eq _ _ _ _, Or.inl rfl⟩
  apply k10_mendingAsking_r
  have loop : ∀ (d k : Nat) (M2 : pm_M), (k : Int) + d = A → Fr pFlip M M2 → o1 (flq P T t) k = none → k10_mendingAsking_5 t (-2) (k : Int) M2 K := by
    intro d
    induction d with
    | zero =>
      intro k M2 hd f2 h2
      apply k10_mendingAsking_5_r
      rw [f2.g rfl, hk, ← hA, if_neg (by omega)]
      refine ⟨⟨t0, by omega⟩, ?_⟩
      have := hq _ (f2.up (-1) (a := 73) (i := 12) rfl) (fin M2 f2)
      unfold flA at this
      rw [← hA, show A.toNat = k by omega, h2] at this
      exact this
    | succ d ih =>
      intro k M2 hd f2 h2
      apply k10_mendingAsking_5_r
      rw [f2.g rfl, hk, ← hA, if_pos (by omega), if_pos rfl, w32_id (show -2147483648 ≤ (k : Int) + 1 ∧ (k : Int) + 1 < 2147483648 by omega)]
      refine ⟨⟨t0, by omega⟩, ?_⟩
      have f3 : Fr pFlip M (upI M2 73 12 (k : Int)) := f2.up _ rfl
      have s3 : Sm P (upI M2 73 12 (k : Int)) := f3.sm hS (fun a i h1 h2 => by simp [pFlip, pRun]; omega)
      have c3 : CT T nT (upI M2 73 12 (k : Int)) := ⟨by rw [f3.g rfl]; exact hT.1, hnT, fun u j u0 u1 j0 j1 => by rw [f3.g (by simp [pFlip, pRun]; omega)]; exact hT.2.2 u j u0 u1 j0 j1⟩
      have m3 : Fm (-1, 0, (k : Int)) (upI M2 73 12 (k : Int)) := ⟨by rw [gI_nf _ _ (by decide), f2.g rfl]; exact hF.1, fun z => absurd z (by show ¬ (0 : Int) ≤ -1; decide), gI_eq _ _ _ _, Or.inl rfl⟩
      refine cpasses_r hW.r t0 t1 s3 m3 c3 (fun M4 hR _ => ?_)
      have f4 : Fr pFlip M M4 := f3.trans (hR.fr.mono (fun a i h => by simp only [pFlip, h, Bool.true_or]))
      rcases okT_01 P (-1, 0, (k : Int)) T t with z | z
      · rw [z, if_pos rfl]
        have hf : flq P T t (k : Int) = none := if_neg (by rw [z]; decide)
        have := ih (k + 1) M4 (by omega) f4 ((flip_pure (m := 0) k h2).1 hf)
        rw [show (((k + 1 : Nat)) : Int) = (k : Int) + 1 by omega] at this
        exact this
      · rw [z, if_neg (by decide)]
        have hf : flq P T t (k : Int) = some (k : Int) := if_pos z
        have hs := o1_stay A.toNat (k + 1) (by omega) ((flip_pure (m := 0) k h2).2 _ hf)
        have hK := hq _ (f4.up (-1) (a := 73) (i := 12) rfl) (fin M4 f4)
        unfold flA at hK
        rw [← hA, hs] at hK
        apply k10_mendingAsking_5_r
        refine ⟨⟨t0, by omega⟩, ?_⟩
        split
        · rw [if_neg (by omega)]; exact hK
        · exact hK
  exact loop A.toNat 0 M (by omega) Fr.rf rfl
def qFlip (a i : Nat) : Bool := qRun a i || (a == 142 && i == 35)
theorem rflip_r {P : Pg} {T : Ts} {nT : Int} (hW : WF P) (hp0 : 0 < P 2 15) {M : pm_M} {K : Int → pm_M → Prop} {t : Int} (t0 : 0 ≤ t) (t1 : t < nT) (hB : RB P Fz T nT M)
    (hq : ∀ M', Fr qFlip M M' → FmR Fz M' → K (flA P T t) M') : k12_flip_41 t ((runP P Fz (T t)).2.2.2.2.1) (-2) 0 M K := by
  obtain ⟨hP, hF, hT, hV⟩ := hB
  have hnT := hT.2.1
  have hok := runP_ok (P := P) (F := Fz) (r := T t)
  obtain ⟨A, hA⟩ : ∃ A : Int, A = (runP P Fz (T t)).2.2.2.2.1 := ⟨_, rfl⟩
  rw [← hA]
  have A0 : 0 ≤ A := by rw [hA]; exact hok.2.1
  have A1 : A ≤ 300 := by have := hok.1; have := hok.2.2; omega
  have fin : ∀ M2, Fr qFlip M M2 → FmR Fz (upI M2 142 35 (-1)) := fun M2 f => ⟨by rw [gI_nf _ _ (by decide), f.g rfl]; exact hF.1, fun z => absurd z (by decide), gI_eq _ _ _ _, Or.inl rfl⟩
  have loop : ∀ (d k : Nat) (M2 : pm_M), (k : Int) + d = A → Fr qFlip M M2 → o1 (flq P T t) k = none → k12_flip_41 t A (-2) (k : Int) M2 K := by
    intro d
    induction d with
    | zero =>
      intro k M2 hd f2 h2
      apply k12_flip_41_r
      rw [if_neg (by omega)]
      have := hq _ (f2.up (-1) (a := 142) (i := 35) rfl) (fin M2 f2)
      unfold flA at this
      rw [← hA, show A.toNat = k by omega, h2] at this
      exact this
    | succ d ih =>
      intro k M2 hd f2 h2
      apply k12_flip_41_r
      rw [if_pos (by omega), if_pos rfl, w32_id (show -2147483648 ≤ (k : Int) + 1 ∧ (k : Int) + 1 < 2147483648 by omega)]
      have f3 : Fr qFlip M (upI M2 142 35 (k : Int)) := f2.up _ rfl
      have p3 : RP P (upI M2 142 35 (k : Int)) := f3.rp hP (fun a i h1 h2 => by simp [qFlip, qRun]; omega)
      have c3 : RT T nT (upI M2 142 35 (k : Int)) := ⟨by rw [f3.g rfl]; exact hT.1, hnT, fun u j u0 u1 j0 j1 => by rw [f3.g rfl]; exact hT.2.2 u j u0 u1 j0 j1⟩
      have m3 : FmR (-1, 0, (k : Int)) (upI M2 142 35 (k : Int)) := ⟨by rw [gI_nf _ _ (by decide), f2.g rfl]; exact hF.1, fun z => absurd z (by show ¬ (0 : Int) ≤ -1; decide), gI_eq _ _ _ _, Or.inl rfl⟩
      refine rpassesT_r hW.r hW.s hW.t hp0 t0 t1 p3 m3 c3 (fun M4 hR _ => ?_)
      have f4 : Fr qFlip M M4 := f3.trans (hR.fr.mono (fun a i h => by simp only [qFlip, h, Bool.true_or]))
      rcases okT_01 P (-1, 0, (k : Int)) T t with z | z
      · rw [z, if_pos rfl]
        have hf : flq P T t (k : Int) = none := if_neg (by rw [z]; decide)
        have := ih (k + 1) M4 (by omega) f4 ((flip_pure (m := 0) k h2).1 hf)
        rw [show (((k + 1 : Nat)) : Int) = (k : Int) + 1 by omega] at this
        exact this
      · rw [z, if_neg (by decide)]
        have hf : flq P T t (k : Int) = some (k : Int) := if_pos z
        have hs := o1_stay A.toNat (k + 1) (by omega) ((flip_pure (m := 0) k h2).2 _ hf)
        have hK := hq _ (f4.up (-1) (a := 142) (i := 35) rfl) (fin M4 f4)
        unfold flA at hK
        rw [← hA, hs] at hK
        apply k12_flip_41_r
        split
        · rw [if_neg (by omega)]; exact hK
        · exact hK
  exact loop A.toNat 0 M (by omega) Fr.rf rfl

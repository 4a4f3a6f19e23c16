-- needs 30 31 32 33a 33b 33c 33d 33e 33f 33g 33h 33i 33j 40
/-! a row filled; the class's run of a program by a test -/
theorem upI_nw {M : pm_M} {x : Nat} {i : Nat} {v : Int} : upI (pm_nw M x (fun j => if j < i then v else M x j)) x (i : Int) v = pm_nw M x (fun j => if j < i + 1 then v else M x j) := by
  funext b j
  show (if b = x ∧ j = (i : Int).toNat then v else (if b = x then (if j < i then v else M x j) else M b j)) = (if b = x then (if j < i + 1 then v else M x j) else M b j)
  rw [Int.toNat_natCast]
  by_cases hb : b = x
  · subst hb
    simp only [true_and, if_true]
    by_cases hj : j = i
    · subst hj; rw [if_pos rfl, if_pos (by omega)]
    · rw [if_neg hj]
      by_cases hl : j < i
      · rw [if_pos hl, if_pos (by omega)]
      · rw [if_neg hl, if_neg (by omega)]
  · simp only [hb, false_and, if_false]
theorem fill_r {x n : Nat} {v : Int} {M : pm_M} {K : pm_M → Prop} (hs : pm_S0[x]? = some (14, n)) (hr : pm_nr x = true) (hn : n < 2147483648) (hq : K (pm_nw M x (fun j => if j < n then v else M x j))) : kJ7_fill_53178 x v M K := by
  intro sc d hd
  have loop : ∀ (k i : Nat), i + k = n → pm_Fr sc d 0 mJ7_fill_53178 5 [(2, (x : Int)), (0, v), (0, (i : Int)), (0, (n : Int))] [] (pm_nw M x (fun j => if j < i then v else M x j)) (qV K) := by
    intro k
    induction k with
    | zero =>
      intro i hi
      refine fr_iload_n (pc := 5) dJ7_fill_53178_5 rfl rfl ?_
      refine fr_iload_n (pc := 6) dJ7_fill_53178_6 rfl rfl ?_
      refine fr_icmT (tg := 20) (pc := 7) dJ7_fill_53178_7 (decide_eq_true (by omega)) rfl ?_
      have : i = n := by omega
      subst this
      exact fr_vret (pc := 20) dJ7_fill_53178_20 rfl hq
    | succ k ih =>
      intro i hi
      refine fr_iload_n (pc := 5) dJ7_fill_53178_5 rfl rfl ?_
      refine fr_iload_n (pc := 6) dJ7_fill_53178_6 rfl rfl ?_
      refine fr_icmF (tg := 20) (pc := 7) dJ7_fill_53178_7 (decide_eq_false (by omega)) rfl ?_
      refine fr_aload_n (pc := 10) dJ7_fill_53178_10 rfl (pm_isA_nat _) ?_
      refine fr_iload_n (pc := 11) dJ7_fill_53178_11 rfl rfl ?_
      refine fr_iload_n (pc := 12) dJ7_fill_53178_12 rfl rfl ?_
      refine fr_iastore (a := x) (pc := 13) dJ7_fill_53178_13 rfl hs (by omega) hr ?_
      rw [upI_nw]
      refine fr_iinc (z := ((i + 1 : Nat) : Int)) (ls2 := [(2, (x : Int)), (0, v), (0, ((i + 1 : Nat) : Int)), (0, (n : Int))]) (pc := 14) dJ7_fill_53178_14 (Nat.le_of_ble_eq_true rfl) rfl (by rw [w32_id (by omega)]; rfl) rfl ?_
      refine fr_goto (tg := 5) (pc := 17) dJ7_fill_53178_17 rfl ?_
      exact ih (i + 1) (by omega)
  refine fr_iconst (pc := 0) dJ7_fill_53178_0 (by decide) ?_
  refine fr_istore_n (ls2 := [(2, (x : Int)), (0, v), (0, 0), (9, 0)]) (pc := 1) dJ7_fill_53178_1 rfl (Nat.le_of_ble_eq_true rfl) rfl ?_
  refine fr_aload_n (pc := 2) dJ7_fill_53178_2 rfl (pm_isA_nat _) ?_
  refine fr_alen (a := x) (pc := 3) dJ7_fill_53178_3 rfl hs ⟨by decide, by decide, hn⟩ rfl ?_
  refine fr_istore_n (ls2 := [(2, (x : Int)), (0, v), (0, 0), (0, (n : Int))]) (pc := 4) dJ7_fill_53178_4 rfl (Nat.le_of_ble_eq_true rfl) rfl ?_
  have h0 := loop n 0 (by omega)
  have e : pm_nw M x (fun j => if j < 0 then v else M x j) = M := by
    funext b j
    show (if b = x then (if j < 0 then v else M x j) else M b j) = M b j
    by_cases hb : b = x
    · subst hb; rw [if_pos rfl, if_neg (by omega)]
    · rw [if_neg hb]
  rw [e] at h0
  exact h0
/-- the sign's outcome -/
theorem pm_ifK {p : Prop} [Decidable p] {K : Int → pm_M → Prop} {M : pm_M} {a b : Int} (h : K (if p then a else b) M) : if p then K a M else K b M := by
  by_cases hp : p
  · rw [if_pos hp] at h ⊢; exact h
  · rw [if_neg hp] at h ⊢; exact h
theorem combined_r {s l r : Int} {M : pm_M} {K : Int → pm_M → Prop} (h : ¬ (r = 0 ∧ (s = 3 ∨ s = 4))) (hq : K (comb s l r) M) : k1_combined s l r M K := by
  apply k1_combined_r
  by_cases e0 : s = 0
  · subst e0; exact hq
  by_cases e1 : s = 1
  · subst e1; exact hq
  by_cases e2 : s = 2
  · subst e2; exact hq
  by_cases e3 : s = 3
  · subst e3; exact (if_neg (fun z => h ⟨z, Or.inl rfl⟩)).mpr hq
  by_cases e4 : s = 4
  · subst e4; exact (if_neg (fun z => h ⟨z, Or.inr rfl⟩)).mpr hq
  by_cases e5 : s = 5
  · subst e5; exact pm_ifK hq
  by_cases e6 : s = 6
  · subst e6; exact pm_ifK hq
  by_cases e7 : s = 7
  · subst e7; exact pm_ifK hq
  by_cases e8 : s = 8
  · subst e8; exact pm_ifK hq
  by_cases e9 : s = 9
  · subst e9; exact pm_ifK hq
  unfold comb at hq
  rw [if_neg e0, if_neg e1, if_neg e2, if_neg e3, if_neg e4, if_neg e5, if_neg e6, if_neg e7, if_neg e8, if_neg e9] at hq ⊢
  exact pm_ifK hq
/-- cells beyond a list are as they were -/
def Off (l : List Nat) (M M' : pm_M) : Prop := ∀ a, a ∉ l → M' a = M a
theorem Off.rf {l : List Nat} {M : pm_M} : Off l M M := fun _ _ => rfl
theorem Off.up {l : List Nat} {M M' : pm_M} (h : Off l M M') {a : Nat} (ha : a ∈ l) (i v : Int) : Off l M (upI M' a i v) := fun b hb => by
  have e : b ≠ a := fun z => hb (z ▸ ha)
  rw [upI_at _ _ _ e]; exact h b hb
theorem Off.nw {l : List Nat} {M M' : pm_M} (h : Off l M M') {a : Nat} (ha : a ∈ l) (f : Nat → Int) : Off l M (pm_nw M' a f) := fun b hb => by
  have e : b ≠ a := fun z => hb (z ▸ ha)
  rw [pm_nw_ne e]; exact h b hb
theorem Off.trans {l : List Nat} {M M' M'' : pm_M} (h : Off l M M') (h' : Off l M' M'') : Off l M M'' := fun b hb => (h' b hb).trans (h b hb)
theorem Off.mono {l l' : List Nat} {M M' : pm_M} (h : Off l M M') (hl : ∀ a, a ∈ l → a ∈ l') : Off l' M M' := fun b hb => h b (fun z => hb (hl b z))
theorem Off.g {l : List Nat} {M M' : pm_M} (h : Off l M M') {a : Nat} (ha : a ∉ l) : gI M' a = gI M a := by funext i; unfold gI; rw [h a ha]
/-- a heap holds the program -/
def Sm (P : Pg) (M : pm_M) : Prop := ∀ a, 2 ≤ a → a < 18 → gI M a = P a
theorem Sm.off {P : Pg} {l : List Nat} {M M' : pm_M} (h : Sm P M) (ho : Off l M M') (hl : ∀ a ∈ l, ¬ (2 ≤ a ∧ a < 18)) : Sm P M' := fun a h1 h2 => by
  rw [ho.g (fun z => hl a z ⟨h1, h2⟩)]; exact h a h1 h2
theorem workOut_r {P : Pg} {M : pm_M} {K : Int → pm_M → Prop} {f : Nat} {s e : Int} (hS : Sm P M) (hE : Ex P f (s + 1) e) (hs : 0 ≤ s) (he : e < 60) (hl : P 9 s = e) (hv : ∀ n, s < n → n ≤ e → P 3 n = 5 → 0 ≤ P 4 n ∧ P 4 n < 9)
    (h0 : evx P (gI M 74) 60 (s + 1) = none → ∀ M', Off [75] M M' → K 0 (upI M' 73 6 1))
    (h1 : ∀ v, evx P (gI M 74) 60 (s + 1) = some v → ∀ M', Off [75] M M' → gI M' 75 (s + 1) = v → K 1 M') : k1_workOut s M K := by
  have hle := hE.le
  have loop : ∀ (k : Nat) (n : Int) (M' : pm_M), n = s + k → n ≤ e → Off [75] M M' → (∀ m, n < m → m ≤ e → evx P (gI M 74) 60 m = some (gI M' 75 m)) → k1_workOut_10 s n M' K := by
    intro k
    induction k with
    | zero =>
      intro n M' hn hne ho hi
      apply k1_workOut_10_r
      rw [if_pos (by omega)]
      exact h1 _ (hi (s + 1) (by omega) hle) M' ho rfl
    | succ k ih =>
      intro n M' hn hne ho hi
      obtain ⟨f', e', hx, hxe⟩ := hE.sub n (by omega) hne
      have hat := evx_at (vr := gI M 74) hx (by omega) (by omega)
      have next : ∀ v, evx P (gI M 74) 60 n = some v → k1_workOut_10 s (w32 (n + (-1))) (upI M' 75 n v) K := by
        intro v hev
        rw [w32_id (by omega)]
        refine ih _ _ (by omega) (by omega) (ho.up (by simp) _ _) (fun m hm1 hm2 => ?_)
        rw [gI_up _ _ (by omega) (by omega)]
        by_cases hmn : m = n
        · rw [if_pos hmn, hmn, hev]
        · rw [if_neg hmn]; exact hi m (by omega) hm2
      have crash : evx P (gI M 74) 60 n = none → K 0 (upI M' 73 6 1) := fun h => h0 (evx_crash hE (by omega) he n (by omega) hne h) M' ho
      have hS' := hS.off ho (by decide)
      have e74 : gI M' 74 = gI M 74 := ho.g (by decide)
      have g3 := hS' 3 (by decide) (by decide)
      have g4 := hS' 4 (by decide) (by decide)
      have g5 := hS' 5 (by decide) (by decide)
      have g8 := hS' 8 (by decide) (by decide)
      apply k1_workOut_10_r
      rw [if_neg (by omega)]
      refine ⟨⟨by omega, by omega⟩, ?_⟩
      rw [g3, g4, g5, g8, e74]
      rcases hx.kids with (hk | hk) | ⟨hk, hk1, -⟩ | ⟨hk, hk1, hk2, -, -⟩
      · rw [if_pos hk]
        rw [hk, if_pos rfl] at hat
        exact next _ hat
      · rw [hk] at hat ⊢
        rw [if_neg (by decide), if_pos rfl] at hat ⊢
        exact ⟨hv n (by omega) hne hk, next _ hat⟩
      · rw [hk] at hat ⊢
        rw [if_neg (by decide), if_neg (by decide), if_pos rfl] at hat ⊢
        rw [hi (n + 1) (by omega) (by omega)] at hat
        rw [w32_id (show -2147483648 ≤ n + 1 ∧ n + 1 < 2147483648 by omega)]
        by_cases h5 : P 5 n = 1
        · rw [if_pos h5]
          refine ⟨⟨by omega, by omega⟩, next _ ?_⟩
          rw [hat]; simp only [Option.map_some, if_pos h5]
        · rw [if_neg h5]
          refine ⟨⟨by omega, by omega⟩, next _ ?_⟩
          rw [hat]; simp only [Option.map_some, if_neg h5]
      · rw [hk] at hat ⊢
        rw [if_neg (by decide), if_neg (by decide), if_neg (by decide)] at hat ⊢
        rw [hi (n + 1) (by omega) (by omega), hi (P 8 n) (by omega) (by omega)] at hat
        rw [w32_id (show -2147483648 ≤ n + 1 ∧ n + 1 < 2147483648 by omega)]
        simp only [cmb] at hat
        have fin : ∀ l r : Int, (if r = 0 ∧ (P 4 n = 3 ∨ P 4 n = 4) then evx P (gI M 74) 60 n = none else evx P (gI M 74) 60 n = some (comb (P 4 n) l r)) → (if r = 0 then (if P 4 n = 3 then K 0 (upI M' 73 6 1) else (if P 4 n = 4 then K 0 (upI M' 73 6 1) else k1_combined (P 4 n) l r M' (fun r17 M16 => k1_workOut_10 s (w32 (n + (-1))) (upI M16 75 n r17) K))) else k1_combined (P 4 n) l r M' (fun r17 M16 => k1_workOut_10 s (w32 (n + (-1))) (upI M16 75 n r17) K)) := by
          intro l r hq
          by_cases hr : r = 0
          · rw [if_pos hr]
            by_cases q3 : P 4 n = 3
            · rw [if_pos ⟨hr, Or.inl q3⟩] at hq
              rw [if_pos q3]; exact crash hq
            · rw [if_neg q3]
              by_cases q4 : P 4 n = 4
              · rw [if_pos ⟨hr, Or.inr q4⟩] at hq
                rw [if_pos q4]; exact crash hq
              · rw [if_neg q4]
                have hno : ¬ (r = 0 ∧ (P 4 n = 3 ∨ P 4 n = 4)) := fun z => z.2.elim q3 q4
                rw [if_neg hno] at hq
                exact combined_r hno (next _ hq)
          · rw [if_neg hr]
            have hno : ¬ (r = 0 ∧ (P 4 n = 3 ∨ P 4 n = 4)) := fun z => hr z.1
            rw [if_neg hno] at hq
            exact combined_r hno (next _ hq)
        by_cases h5 : P 5 n = 3
        · rw [if_pos h5]
          simp only [if_pos h5] at hat
          refine ⟨⟨by omega, by omega⟩, ⟨by omega, by omega⟩, fin _ _ ?_⟩
          split
          · rename_i z; rw [if_pos z] at hat; exact hat
          · rename_i z; rw [if_neg z] at hat; exact hat
        · rw [if_neg h5]
          simp only [if_neg h5] at hat
          refine ⟨⟨by omega, by omega⟩, ⟨by omega, by omega⟩, fin _ _ ?_⟩
          split
          · rename_i z; rw [if_pos z] at hat; exact hat
          · rename_i z; rw [if_neg z] at hat; exact hat
  apply k1_workOut_r
  refine ⟨⟨by omega, by omega⟩, ?_⟩
  rw [hS 9 (by decide) (by decide), hl]
  obtain ⟨k, hk⟩ : ∃ k : Nat, e = s + k := ⟨(e - s).toNat, by omega⟩
  exact loop k e M hk (Int.le_refl _) Off.rf (fun m h1 h2 => by omega)

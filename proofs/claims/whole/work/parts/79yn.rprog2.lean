/-! the other reader: what was read comes to its place -/
theorem ior0 {x : Int} (h : 0 ≤ x ∧ x < 512) : pm_ior x 0 = x := by
  have key : ∀ k : Nat, k < 512 → pm_ior (k : Int) 0 = (k : Int) := by decide +kernel
  have := key x.toNat (by omega)
  rw [Int.toNat_of_nonneg h.1] at this; exact this
def PrR (Q : Qs) (M : pm_M) : Prop := (gI M 144 0 = (Q.1.2.length : Int) ∧ gI M 144 1 = (Q.2.length : Int) ∧ gI M 142 60 = 0) ∧ RN Q.1.2 M ∧ (∀ a, 145 ≤ a → a ≤ 152 → ∀ n : Nat, n < Q.1.2.length → gI M a (n : Int) = gI M a (100 + (n : Int))) ∧ (∀ n : Nat, n < Q.1.2.length → gI M 153 (n : Int) = 0) ∧ MV Q.1.2 (gI M 142 22) ∧ RP2 (-1) 0 0 150 [] Q M
def qCp (a i : Nat) : Bool := (145 ≤ a && a ≤ 153) && decide (i < 60)
theorem copy_r {c n : Nat} {M : pm_M} {K : Int → pm_M → Prop} (hn : n ≤ 60) (h18 : gI M 142 18 = (n : Int))
    (hq : ∀ M', Fr qCp M M' → (∀ a, 145 ≤ a → a ≤ 152 → ∀ j : Nat, j < n → gI M' a (j : Int) = gI M a (100 + (j : Int))) → (∀ j : Nat, j < n → gI M' 153 (j : Int) = 0) → k12_program_276 c 0 (upI M' 142 22 0) K) : k12_program_128 c 0 M K := by
  have loop : ∀ (d k : Nat) (M1 : pm_M), k + d = n → Fr qCp M M1 → (∀ a, 145 ≤ a → a ≤ 152 → ∀ j : Nat, j < k → gI M1 a (j : Int) = gI M a (100 + (j : Int))) → (∀ j : Nat, j < k → gI M1 153 (j : Int) = 0) → k12_program_128 c (k : Int) M1 K := by
    intro d
    induction d with
    | zero =>
      intro k M1 hk f1 h1 h2
      have ek : k = n := by omega
      subst ek
      apply k12_program_128_r
      rw [f1.g rfl, h18, if_neg (by omega)]
      exact hq M1 f1 h1 h2
    | succ d ih =>
      intro k M1 hk f1 h1 h2
      apply k12_program_128_r
      have wk : w32 (100 + (k : Int)) = 100 + (k : Int) := w32_id (by omega)
      have wk1 : w32 ((k : Int) + 1) = ((k + 1 : Nat) : Int) := by rw [w32_id (by omega)]; omega
      rw [f1.g rfl, h18, if_pos (by omega), wk, wk1]
      refine ⟨⟨by omega, by omega⟩, ⟨by omega, by omega⟩, ⟨by omega, by omega⟩, ?_⟩
      have src : ∀ a, 145 ≤ a → a ≤ 152 → gI M1 a (100 + (k : Int)) = gI M a (100 + (k : Int)) := fun a a1 a2 => f1.g (by simp [qCp]; omega)
      rw [src 145 (by decide) (by decide), src 146 (by decide) (by decide), src 147 (by decide) (by decide), src 148 (by decide) (by decide), src 149 (by decide) (by decide), src 150 (by decide) (by decide), src 151 (by decide) (by decide), src 152 (by decide) (by decide)]
      obtain ⟨v, hv⟩ : ∃ v : Nat → Int, v = fun a => gI M a (100 + (k : Int)) := ⟨_, rfl⟩
      have ev : ∀ a, gI M a (100 + (k : Int)) = v a := fun a => by rw [hv]
      rw [ev 145, ev 146, ev 147, ev 148, ev 149, ev 150, ev 151, ev 152]
      clear src
      obtain ⟨q, hq'⟩ : ∃ q : Int, q = (k : Int) := ⟨_, rfl⟩
      rw [← hq']
      have hq0 : 0 ≤ q := by omega
      have up : ∀ a, 145 ≤ a → a ≤ 153 → qCp a q.toNat = true := fun a a1 a2 => by simp [qCp]; omega
      obtain ⟨A, hA⟩ : ∃ A, A = upI (upI (upI (upI (upI (upI (upI (upI (upI M1 145 q (v 145)) 146 q (v 146)) 147 q (v 147)) 148 q (v 148)) 149 q (v 149)) 150 q (v 150)) 151 q (v 151)) 152 q (v 152)) 153 q 0 := ⟨_, rfl⟩
      rw [← hA]
      have fA : Fr qCp M A := by
        rw [hA]
        exact (((((((((f1.up _ (up 145 (by decide) (by decide))).up _ (up 146 (by decide) (by decide))).up _ (up 147 (by decide) (by decide))).up _ (up 148 (by decide) (by decide))).up _ (up 149 (by decide) (by decide))).up _ (up 150 (by decide) (by decide))).up _ (up 151 (by decide) (by decide))).up _ (up 152 (by decide) (by decide))).up _ (up 153 (by decide) (by decide)))
      have g153 : ∀ j, 0 ≤ j → gI A 153 j = if j = q then 0 else gI M1 153 j := fun j j0 => by
        rw [hA, gI_up _ _ hq0 j0, gI_ne _ _ _ _ (by decide), gI_ne _ _ _ _ (by decide), gI_ne _ _ _ _ (by decide), gI_ne _ _ _ _ (by decide), gI_ne _ _ _ _ (by decide), gI_ne _ _ _ _ (by decide), gI_ne _ _ _ _ (by decide), gI_ne _ _ _ _ (by decide)]
      have gA : ∀ a, 145 ≤ a → a ≤ 152 → ∀ j, 0 ≤ j → gI A a j = if j = q then v a else gI M1 a j := by
        intro a a1 a2 j j0
        have h8 : a = 145 ∨ a = 146 ∨ a = 147 ∨ a = 148 ∨ a = 149 ∨ a = 150 ∨ a = 151 ∨ a = 152 := by omega
        rw [hA]
        rcases h8 with rfl | rfl | rfl | rfl | rfl | rfl | rfl | rfl
        · rw [gI_ne _ _ _ _ (by decide), gI_ne _ _ _ _ (by decide), gI_ne _ _ _ _ (by decide), gI_ne _ _ _ _ (by decide), gI_ne _ _ _ _ (by decide), gI_ne _ _ _ _ (by decide), gI_ne _ _ _ _ (by decide), gI_ne _ _ _ _ (by decide), gI_up _ _ hq0 j0]
        · rw [gI_ne _ _ _ _ (by decide), gI_ne _ _ _ _ (by decide), gI_ne _ _ _ _ (by decide), gI_ne _ _ _ _ (by decide), gI_ne _ _ _ _ (by decide), gI_ne _ _ _ _ (by decide), gI_ne _ _ _ _ (by decide), gI_up _ _ hq0 j0, gI_ne _ _ _ _ (by decide)]
        · rw [gI_ne _ _ _ _ (by decide), gI_ne _ _ _ _ (by decide), gI_ne _ _ _ _ (by decide), gI_ne _ _ _ _ (by decide), gI_ne _ _ _ _ (by decide), gI_ne _ _ _ _ (by decide), gI_up _ _ hq0 j0, gI_ne _ _ _ _ (by decide), gI_ne _ _ _ _ (by decide)]
        · rw [gI_ne _ _ _ _ (by decide), gI_ne _ _ _ _ (by decide), gI_ne _ _ _ _ (by decide), gI_ne _ _ _ _ (by decide), gI_ne _ _ _ _ (by decide), gI_up _ _ hq0 j0, gI_ne _ _ _ _ (by decide), gI_ne _ _ _ _ (by decide), gI_ne _ _ _ _ (by decide)]
        · rw [gI_ne _ _ _ _ (by decide), gI_ne _ _ _ _ (by decide), gI_ne _ _ _ _ (by decide), gI_ne _ _ _ _ (by decide), gI_up _ _ hq0 j0, gI_ne _ _ _ _ (by decide), gI_ne _ _ _ _ (by decide), gI_ne _ _ _ _ (by decide), gI_ne _ _ _ _ (by decide)]
        · rw [gI_ne _ _ _ _ (by decide), gI_ne _ _ _ _ (by decide), gI_ne _ _ _ _ (by decide), gI_up _ _ hq0 j0, gI_ne _ _ _ _ (by decide), gI_ne _ _ _ _ (by decide), gI_ne _ _ _ _ (by decide), gI_ne _ _ _ _ (by decide), gI_ne _ _ _ _ (by decide)]
        · rw [gI_ne _ _ _ _ (by decide), gI_ne _ _ _ _ (by decide), gI_up _ _ hq0 j0, gI_ne _ _ _ _ (by decide), gI_ne _ _ _ _ (by decide), gI_ne _ _ _ _ (by decide), gI_ne _ _ _ _ (by decide), gI_ne _ _ _ _ (by decide), gI_ne _ _ _ _ (by decide)]
        · rw [gI_ne _ _ _ _ (by decide), gI_up _ _ hq0 j0, gI_ne _ _ _ _ (by decide), gI_ne _ _ _ _ (by decide), gI_ne _ _ _ _ (by decide), gI_ne _ _ _ _ (by decide), gI_ne _ _ _ _ (by decide), gI_ne _ _ _ _ (by decide), gI_ne _ _ _ _ (by decide)]
      clear hA
      refine ih (k + 1) A (by omega) fA (fun a a1 a2 j hj => ?_) (fun j hj => ?_)
      · rw [gA a a1 a2 _ (by omega)]
        by_cases e : j = k
        · subst e; rw [if_pos hq'.symm]; exact (ev a).symm
        · rw [if_neg (by omega)]; exact h1 a a1 a2 j (by omega)
      · rw [g153 _ (by omega)]
        by_cases e : j = k
        · rw [if_pos (by omega)]
        · rw [if_neg (by omega)]; exact h2 j (by omega)
  exact loop n 0 M (by omega) Fr.rf (fun a _ _ j hj => absurd hj (Nat.not_lt_zero _)) (fun j hj => absurd hj (Nat.not_lt_zero _))
theorem take_mem {l : List (Int × Int)} {k : Nat} (hk : k < l.length) (z : Int × Int) : z ∈ l.take (k + 1) ↔ z = l.getD k (0, 0) ∨ z ∈ l.take k := by
  rw [List.take_succ, List.mem_append, List.getElem?_eq_getElem hk, List.getD_eq_getElem?_getD, List.getElem?_eq_getElem hk]
  simp only [Option.toList_some, List.mem_singleton, Option.getD_some]
  exact Or.comm
theorem inprog_r {c : Nat} {nd : List (Int × Int)} {M : pm_M} {K : Int → pm_M → Prop} (hn : nd.length ≤ 60) (hv : ∀ x ∈ nd, vld x) (h18 : gI M 142 18 = (nd.length : Int)) (hk : ∀ i : Nat, i < nd.length → gI M 145 (i : Int) = (nd.getD i (0, 0)).1 ∧ (¬ ((nd.getD i (0, 0)).1 = 1 ∨ (nd.getD i (0, 0)).1 = 2 ∨ (nd.getD i (0, 0)).1 = 3) → gI M 146 (i : Int) = (nd.getD i (0, 0)).2)) (h22 : gI M 142 22 = 0)
    (hq : ∀ M', Fr (fun a i => a == 142 && (i == 22 || i == 60)) M M' → MV nd (gI M' 142 22) → gI M' 142 60 = 0 → K (nd.length : Int) M') : k12_program_276 c 0 M K := by
  have loop : ∀ (d k : Nat) (M1 : pm_M), k + d = nd.length → Fr (fun a i => a == 142 && i == 22) M M1 → MV (nd.take k) (gI M1 142 22) → k12_program_276 c (k : Int) M1 K := by
    intro d
    induction d with
    | zero =>
      intro k M1 hk' f1 h1
      apply k12_program_276_r
      rw [f1.g rfl, h18, if_neg (by omega)]
      rw [show nd.take k = nd from List.take_of_length_le (by omega)] at h1
      refine hq _ ((f1.mono (fun a i y => by simp only [Bool.and_eq_true, beq_iff_eq] at y; simp [y])).up _ rfl) ?_ (gI_eq _ _ _ _)
      rw [gI_nf _ _ (by decide)]; exact h1
    | succ d ih =>
      intro k M1 hk' f1 h1
      have hlt : k < nd.length := by omega
      apply k12_program_276_r
      obtain ⟨e1, e2⟩ := hk k hlt
      have hvl := hv _ (gdM (z := ((0, 0) : Int × Int)) hlt)
      have hadd := h1.add (l' := nd.take (k + 1)) (y := nd.getD k (0, 0)) (fun z => take_mem hlt z)
      have wk1 : w32 ((k : Int) + 1) = ((k + 1 : Nat) : Int) := by rw [w32_id (by omega)]; omega
      have k145 : gI M1 145 (k : Int) = gI M 145 (k : Int) := f1.g rfl
      have k146 : gI M1 146 (k : Int) = gI M 146 (k : Int) := f1.g rfl
      rw [f1.g (show ((142 : Nat) == 142 && (18 : Int).toNat == 22) = false from rfl), h18, if_pos (by omega), k145, k146, wk1]
      generalize nd.getD k (0, 0) = y at *
      rw [e1]
      refine ⟨⟨by omega, by omega⟩, ?_⟩
      have yes : (y.1 = 0 ∨ y.1 = 5) → k12_program_276 c ((k + 1 : Nat) : Int) (upI M1 142 22 (pm_ior (gI M1 142 22) (pm_ishl 1 (gI M 146 (k : Int))))) K := by
        intro hy
        rw [e2 (by omega)]
        refine ih (k + 1) _ (by omega) (f1.up _ rfl) ?_
        rw [gI_eq]
        exact hadd.2 hy (hvl.2.1 hy)
      by_cases a : y.1 = 0
      · rw [if_pos a]; exact yes (Or.inl a)
      rw [if_neg a]
      by_cases b : y.1 = 5
      · rw [if_pos b]; exact yes (Or.inr b)
      rw [if_neg b, ior0 h1.1]
      refine ih (k + 1) _ (by omega) (f1.up _ rfl) ?_
      rw [gI_eq]
      exact hadd.1 (fun z => z.elim a b)
  refine loop nd.length 0 M (by omega) Fr.rf ?_
  rw [h22]
  refine ⟨by decide, fun v v0 v1 => ⟨fun z => absurd z (bi0 ⟨v0, v1⟩), fun ⟨y, hy, _⟩ => ?_⟩⟩
  rw [List.take_zero] at hy
  exact absurd hy (by simp)

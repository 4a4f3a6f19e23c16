/-! the heap behind the law's makings, and rules for the steps of the small machine there -/
/-- what cells there are: 0 the class, 142 the reference, 177 the law's long -/
def pm_S0 : pm_S := [(11, 15), (13, 600), (0, 19), (14, 60), (14, 60), (14, 60), (14, 60), (14, 60), (14, 60), (14, 60), (14, 60), (14, 60), (14, 60), (14, 60), (14, 20), (14, 20), (14, 20), (14, 20), (8, 3), (17, 16), (14, 5), (14, 5), (14, 5), (14, 5), (14, 5), (14, 5), (14, 5), (14, 5), (14, 5), (14, 5), (14, 5), (14, 5), (14, 5), (14, 5), (14, 5), (14, 5), (0, 19), (14, 60), (14, 60), (14, 60), (14, 60), (14, 60), (14, 60), (14, 60), (14, 60), (14, 60), (14, 60), (14, 60), (14, 20), (14, 20), (14, 20), (14, 20), (8, 3), (17, 16), (14, 5), (14, 5), (14, 5), (14, 5), (14, 5), (14, 5), (14, 5), (14, 5), (14, 5), (14, 5), (14, 5), (14, 5), (14, 5), (14, 5), (14, 5), (14, 5), (7, 7), (4, 2), (9, 2), (1, 14), (14, 9), (14, 60), (14, 300), (6, 14), (14, 16), (14, 16), (14, 16), (14, 16), (16, 16), (17, 16), (14, 300), (14, 300), (14, 300), (14, 300), (14, 300), (14, 300), (14, 300), (14, 300), (14, 300), (14, 300), (14, 300), (14, 300), (14, 300), (14, 300), (14, 300), (14, 300), (17, 16), (14, 60), (14, 60), (14, 60), (14, 60), (14, 60), (14, 60), (14, 60), (14, 60), (14, 60), (14, 60), (14, 60), (14, 60), (14, 60), (14, 60), (14, 60), (14, 60), (5, 7), (14, 60), (14, 60), (17, 3), (14, 60), (14, 60), (14, 60), (17, 3), (14, 60), (14, 60), (14, 60), (17, 3), (14, 20), (14, 20), (14, 20), (2, 12), (14, 480), (14, 480), (14, 480), (14, 480), (15, 7680), (3, 15), (15, 480), (14, 60), (10, 8), (12, 64), (13, 600), (14, 2), (14, 800), (14, 800), (14, 800), (14, 800), (14, 800), (14, 800), (14, 800), (14, 800), (14, 60), (14, 80), (14, 80), (14, 9), (14, 60), (14, 300), (14, 60), (14, 60), (14, 20), (14, 2), (14, 2), (14, 2), (14, 800), (14, 800), (14, 800), (14, 800), (14, 12800), (14, 12800), (16, 60), (14, 5), (14, 60), (14, 20), (14, 20), (14, 20), (15, 1)]
/-- the references that never change -/
def pm_refs : List (Nat × Nat × Int) := [(0, 0, 1), (0, 2, 71), (0, 3, 72), (0, 4, 2), (0, 5, 18), (0, 6, 36), (0, 7, 52), (0, 8, 73), (0, 9, 77), (0, 10, 117), (0, 11, 132), (0, 12, 138), (0, 13, 141), (2, 0, 3), (2, 1, 4), (2, 2, 5), (2, 3, 6), (2, 4, 7), (2, 5, 8), (2, 6, 9), (2, 7, 10), (2, 8, 11), (2, 9, 12), (2, 10, 13), (2, 11, 14), (2, 12, 15), (2, 13, 16), (2, 14, 17), (18, 0, 19), (19, 0, 20), (19, 1, 21), (19, 2, 22), (19, 3, 23), (19, 4, 24), (19, 5, 25), (19, 6, 26), (19, 7, 27), (19, 8, 28), (19, 9, 29), (19, 10, 30), (19, 11, 31), (19, 12, 32), (19, 13, 33), (19, 14, 34), (19, 15, 35), (36, 0, 37), (36, 1, 38), (36, 2, 39), (36, 3, 40), (36, 4, 41), (36, 5, 42), (36, 6, 43), (36, 7, 44), (36, 8, 45), (36, 9, 46), (36, 10, 47), (36, 11, 48), (36, 12, 49), (36, 13, 50), (36, 14, 51), (52, 0, 53), (53, 0, 54), (53, 1, 55), (53, 2, 56), (53, 3, 57), (53, 4, 58), (53, 5, 59), (53, 6, 60), (53, 7, 61), (53, 8, 62), (53, 9, 63), (53, 10, 64), (53, 11, 65), (53, 12, 66), (53, 13, 67), (53, 14, 68), (53, 15, 69), (70, 0, 1), (71, 0, 70), (72, 0, 70), (73, 0, 2), (73, 1, 18), (73, 2, 74), (73, 3, 75), (73, 4, 76), (77, 0, 2), (77, 1, 18), (77, 2, 73), (77, 3, 78), (77, 4, 79), (77, 5, 80), (77, 6, 81), (77, 7, 82), (77, 8, 83), (77, 9, 100), (83, 0, 84), (83, 1, 85), (83, 2, 86), (83, 3, 87), (83, 4, 88), (83, 5, 89), (83, 6, 90), (83, 7, 91), (83, 8, 92), (83, 9, 93), (83, 10, 94), (83, 11, 95), (83, 12, 96), (83, 13, 97), (83, 14, 98), (83, 15, 99), (100, 0, 101), (100, 1, 102), (100, 2, 103), (100, 3, 104), (100, 4, 105), (100, 5, 106), (100, 6, 107), (100, 7, 108), (100, 8, 109), (100, 9, 110), (100, 10, 111), (100, 11, 112), (100, 12, 113), (100, 13, 114), (100, 14, 115), (100, 15, 116), (117, 0, 2), (117, 1, 77), (117, 2, 118), (117, 3, 119), (117, 4, 120), (117, 5, 124), (117, 6, 128), (120, 0, 121), (120, 1, 122), (120, 2, 123), (124, 0, 125), (124, 1, 126), (124, 2, 127), (128, 0, 129), (128, 1, 130), (128, 2, 131), (132, 0, 2), (132, 1, 18), (132, 2, 73), (132, 3, 77), (132, 4, 117), (132, 5, 133), (132, 6, 134), (132, 7, 135), (132, 8, 136), (132, 9, 137), (138, 0, 2), (138, 1, 18), (138, 2, 73), (138, 3, 77), (138, 4, 117), (138, 5, 139), (138, 6, 140), (141, 0, 2), (141, 1, 73), (141, 2, 77), (142, 1, 143), (142, 9, 144), (142, 10, 145), (142, 11, 146), (142, 12, 147), (142, 13, 148), (142, 14, 149), (142, 15, 150), (142, 16, 151), (142, 17, 152), (142, 23, 153), (142, 25, 154), (142, 26, 155), (142, 27, 156), (142, 32, 157), (142, 33, 158), (142, 38, 159), (142, 39, 160), (142, 44, 161), (142, 47, 162), (142, 48, 163), (142, 49, 164), (142, 51, 165), (142, 52, 166), (142, 53, 167), (142, 54, 168), (142, 55, 169), (142, 56, 170), (142, 57, 171), (142, 58, 172), (142, 59, 173), (142, 61, 174), (142, 62, 175), (142, 63, 176)]
/-- a place's number; a place written -/
def gI (M : pm_M) (a : Nat) (i : Int) : Int := M a i.toNat
def upI (M : pm_M) (a : Nat) (i v : Int) : pm_M := pm_up M a i.toNat v
def pm_LS (S : pm_S) : Prop := ∃ X, S = pm_S0 ++ X
def pm_Ag (M N : pm_M) : Prop := ∀ a, a < 178 → N a = M a
def pm_Ly (M : pm_M) : Prop := ∀ q ∈ pm_refs, M q.1 q.2.1 = q.2.2
/-- no reference lies in a cell; at a place -/
def pm_nr (a : Nat) : Bool := pm_refs.all (fun q => q.1 != a)
def pm_nf (a k : Nat) : Bool := pm_refs.all (fun q => q.1 != a || q.2.1 != k)
theorem pm_LS.at {S : pm_S} (h : pm_LS S) {a : Nat} {q : Nat × Nat} (ha : pm_S0[a]? = some q) : S[a]? = some q := by
  obtain ⟨X, rfl⟩ := h
  rw [List.getElem?_append_left (List.getElem?_eq_some_iff.mp ha).1]
  exact ha
theorem pm_LS.fs {S : pm_S} (h : pm_LS S) {a c n : Nat} (ha : pm_S0[a]? = some (c, n)) : (S[a]?).map Prod.fst = some c := by rw [h.at ha]; rfl
theorem pm_S0lt {a : Nat} {q : Nat × Nat} (ha : pm_S0[a]? = some q) : a < 178 := (List.getElem?_eq_some_iff.mp ha).1
theorem pm_Ag.rf {M : pm_M} : pm_Ag M M := fun _ _ => rfl
theorem pm_Ag.g {M N : pm_M} (h : pm_Ag M N) {a : Nat} {q : Nat × Nat} (ha : pm_S0[a]? = some q) (i : Int) : N a i.toNat = gI M a i := by
  rw [h a (pm_S0lt ha)]; rfl
theorem pm_Ag.up {M N : pm_M} (h : pm_Ag M N) (a : Nat) (i v : Int) : pm_Ag (upI M a i v) (pm_up N a i.toNat v) := by
  intro b hb
  funext j
  show (if b = a ∧ j = i.toNat then v else N b j) = (if b = a ∧ j = i.toNat then v else M b j)
  rw [h b hb]
theorem pm_Ly.up {M : pm_M} (h : pm_Ly M) {a : Nat} {i v : Int} (ha : pm_nf a i.toNat = true) : pm_Ly (upI M a i v) := by
  intro q hq
  have h1 := List.all_eq_true.mp ha q hq
  show (if q.1 = a ∧ q.2.1 = i.toNat then v else M q.1 q.2.1) = q.2.2
  rw [if_neg (fun z => by rw [z.1, z.2] at h1; simp at h1)]
  exact h q hq
theorem pm_nr_nf {a : Nat} (h : pm_nr a = true) (k : Nat) : pm_nf a k = true := List.all_eq_true.mpr (fun q hq => by
  have h1 := List.all_eq_true.mp h q hq
  simp only [h1, Bool.true_or])
theorem pm_Ly.nw {M : pm_M} (h : pm_Ly M) {a : Nat} {f : Nat → Int} (ha : pm_nr a = true) : pm_Ly (pm_nw M a f) := by
  intro q hq
  have h1 := List.all_eq_true.mp ha q hq
  show (if q.1 = a then f q.2.1 else M q.1 q.2.1) = q.2.2
  rw [if_neg (fun z => by rw [z] at h1; simp at h1)]
  exact h q hq
theorem pm_Ly.g {M : pm_M} (h : pm_Ly M) {a k : Nat} {v : Int} (hq : (a, k, v) ∈ pm_refs) : M a k = v := h _ hq
/-- reading what was written -/
theorem gI_eq (M : pm_M) (a : Nat) (i v : Int) : gI (upI M a i v) a i = v := if_pos ⟨by trivial, rfl⟩
theorem gI_ne (M : pm_M) {a b : Nat} (i v j : Int) (h : b ≠ a) : gI (upI M a i v) b j = gI M b j := if_neg (fun z => h z.1)
theorem gI_nf (M : pm_M) {a b : Nat} {i j : Int} (v : Int) (h : j.toNat ≠ i.toNat) : gI (upI M a i v) b j = gI M b j := if_neg (fun z => h z.2)
theorem gI_up (M : pm_M) {a : Nat} {i j : Int} (v : Int) (hi : 0 ≤ i) (hj : 0 ≤ j) : gI (upI M a i v) a j = if j = i then v else gI M a j := by
  by_cases h : j = i
  · subst h; rw [if_pos (by trivial), gI_eq]
  · rw [if_neg h, gI_nf _ _ (by omega)]
theorem upI_at (M : pm_M) {a b : Nat} (i v : Int) (h : b ≠ a) : upI M a i v b = M b := pm_up_ne h
theorem gI_nw (M : pm_M) {a : Nat} (f : Nat → Int) (j : Int) : gI (pm_nw M a f) a j = f j.toNat := if_pos (by trivial)
theorem gI_nwn (M : pm_M) {a b : Nat} (f : Nat → Int) (j : Int) (h : b ≠ a) : gI (pm_nw M a f) b j = gI M b j := if_neg h
theorem gI_at {M M' : pm_M} {a : Nat} (h : M' a = M a) (j : Int) : gI M' a j = gI M a j := by unfold gI; rw [h]
theorem pm_ite {p A B G : Prop} [Decidable p] (h : if p then A else B) (h1 : p → A → G) (h2 : ¬ p → B → G) : G := by
  by_cases hp : p
  · rw [if_pos hp] at h; exact h1 hp h
  · rw [if_neg hp] at h; exact h2 hp h
theorem pm_X_fuel {sc : Nat × (Nat → Int)} : ∀ (n d : Nat) (me : pm_Me) (pc : Nat) (ls st : List pm_V) (S : pm_S) (M : pm_M) (x : Option pm_V × pm_S × pm_M), pm_X sc n d me pc ls st S M = some x → ∀ k, pm_X sc (n + k) d me pc ls st S M = some x := by
  intro n
  induction n with
  | zero => intro d me pc ls st S M x h; cases h
  | succ n ih =>
    intro d me pc ls st S M x h k
    rw [Nat.add_right_comm n 1 k]
    unfold pm_X at h ⊢
    split at h
    · cases h
    · exact ih _ _ _ _ _ _ _ _ h k
    · exact h
    · exact h
    · split at h
      · cases h
      · rename_i hd
        rw [if_neg hd]
        split at h
        · cases h
        · rename_i r1 S1 M1 hX
          rw [ih _ _ _ _ _ _ _ _ hX k]
          simp only []
          split at h
          · split at h
            · cases h
            · rename_i h7
              rw [if_neg h7]
              exact ih _ _ _ _ _ _ _ _ h k
          · split at h
            · exact ih _ _ _ _ _ _ _ _ h k
            · exact ih _ _ _ _ _ _ _ _ h k
            · cases h
/-- from this frame, in any heap of the shape that holds M: the method ends, at most c cells more, and Q -/
def pm_Fr (sc : Nat × (Nat → Int)) (d c : Nat) (me : pm_Me) (pc : Nat) (ls st : List pm_V) (M : pm_M) (Q : Option pm_V → pm_M → Prop) : Prop :=
  pm_Ly M → ∀ (S : pm_S) (N : pm_M), pm_LS S → pm_Ag M N → ∃ (n : Nat) (r : Option pm_V) (S' : pm_S) (N' M' : pm_M), pm_X sc n d me pc ls st S N = some (r, S', N') ∧ pm_LS S' ∧ pm_Ag M' N' ∧ S'.length ≤ S.length + c ∧ pm_sz S' ≤ pm_sz S + 6 * c ∧ pm_Ly M' ∧ Q r M'
def qI (K : Int → pm_M → Prop) (r : Option pm_V) (M : pm_M) : Prop := ∃ x, r = some (0, x) ∧ K x M
def qL (K : Int → pm_M → Prop) (r : Option pm_V) (M : pm_M) : Prop := ∃ x, r = some (1, x) ∧ K x M
def qV (K : pm_M → Prop) (r : Option pm_V) (M : pm_M) : Prop := r = none ∧ K M
/-- of a method that may throw: 0 and its answer, or 1 -/
def qT (K : Int → Int → pm_M → Prop) (r : Option pm_V) (M : pm_M) : Prop := (∃ x, r = some (0, x) ∧ K 0 x M) ∨ (∃ x, r = some (7, x) ∧ K 1 0 M)
theorem qI.mono {K K' : Int → pm_M → Prop} (h : ∀ x M, K x M → K' x M) : ∀ r M, qI K r M → qI K' r M := fun r M ⟨x, e, k⟩ => ⟨x, e, h _ _ k⟩
theorem qL.mono {K K' : Int → pm_M → Prop} (h : ∀ x M, K x M → K' x M) : ∀ r M, qL K r M → qL K' r M := fun r M ⟨x, e, k⟩ => ⟨x, e, h _ _ k⟩
theorem qV.mono {K K' : pm_M → Prop} (h : ∀ M, K M → K' M) : ∀ r M, qV K r M → qV K' r M := fun r M ⟨e, k⟩ => ⟨e, h _ k⟩
section PMF
variable {sc : Nat × (Nat → Int)} {d c : Nat} {me : pm_Me} {pc : Nat} {ls st : List pm_V} {M : pm_M} {Q : Option pm_V → pm_M → Prop}
theorem pm_Fr.mono {Q' : Option pm_V → pm_M → Prop} (h : pm_Fr sc d c me pc ls st M Q) (hQ : ∀ r M', Q r M' → Q' r M') : pm_Fr sc d c me pc ls st M Q' := by
  intro hL S N hS hN
  obtain ⟨n, r, S', N', M', h1, h2, h3, h4, h5, h6, h7⟩ := h hL S N hS hN
  exact ⟨n, r, S', N', M', h1, h2, h3, h4, h5, h6, hQ _ _ h7⟩
theorem pm_Fr.cost {c' : Nat} (h : pm_Fr sc d c me pc ls st M Q) (hc : c ≤ c') : pm_Fr sc d c' me pc ls st M Q := by
  intro hL S N hS hN
  obtain ⟨n, r, S', N', M', h1, h2, h3, h4, h5, h6⟩ := h hL S N hS hN
  exact ⟨n, r, S', N', M', h1, h2, h3, by omega, by omega, h6⟩
theorem fr_stp {pc' : Nat} {ls' st' : List pm_V} {M' : pm_M} (hL : pm_Ly M → pm_Ly M') (h : ∀ (S : pm_S) (N : pm_M), pm_LS S → pm_Ag M N → ∃ N', pm_step sc me pc ls st S N = some (.inl (pc', ls', st', S, N')) ∧ pm_Ag M' N') (k : pm_Fr sc d c me pc' ls' st' M' Q) : pm_Fr sc d c me pc ls st M Q := by
  intro hl S N hS hN
  obtain ⟨N1, h1, h2⟩ := h S N hS hN
  obtain ⟨n, r, S', N', M2, k1, k2⟩ := k (hL hl) S N1 hS h2
  refine ⟨n + 1, r, S', N', M2, ?_, k2⟩
  unfold pm_X
  rw [h1]
  exact k1
theorem fr_stq {pc' : Nat} {ls' st' : List pm_V} (h : ∀ (S : pm_S) (N : pm_M), pm_LS S → pm_Ag M N → pm_Ly M → pm_step sc me pc ls st S N = some (.inl (pc', ls', st', S, N))) (k : pm_Fr sc d c me pc' ls' st' M Q) : pm_Fr sc d c me pc ls st M Q := fun hl => fr_stp (fun x => x) (fun S N hS hN => ⟨N, h S N hS hN hl, hN⟩) k hl
theorem fr_ret {r : Option pm_V} (h : ∀ S N, pm_step sc me pc ls st S N = some (.inr (.inr r))) (h7 : ∀ x, r ≠ some (7, x)) (hQ : Q r M) : pm_Fr sc d c me pc ls st M Q := by
  intro hl S N hS hN
  refine ⟨1, r, S, N, M, ?_, hS, hN, Nat.le_add_right _ _, Nat.le_add_right _ _, hl, hQ⟩
  unfold pm_X
  rw [h S N]
  split
  · rename_i h0; cases h0
  · rename_i q h0; cases h0
  · rename_i x h0
    cases h0
    exact absurd rfl (h7 x)
  · rename_i r0 hr0 h0
    cases h0
    rfl
  · rename_i q h0; cases h0
/-- a call at a cost, what comes behind it at the rest -/
theorem fr_cll {me' : pm_Me} {as rest : List pm_V} {c1 c2 : Nat} {Q1 : Option pm_V → pm_M → Prop} (hd : 20 ≤ d) (hc : c1 + c2 ≤ c) (h : ∀ S N, pm_LS S → pm_step sc me pc ls st S N = some (.inr (.inl (me', as, rest, none)))) (hlen : (pm_ent me'.2.2.2.1 as).length = me'.2.2.2.1) (hR : pm_Fr sc (d - 1) c1 me' 0 (pm_ent me'.2.2.2.1 as) [] M Q1) (h7 : ∀ r M', Q1 r M' → r.map Prod.fst ≠ some 7) (k : ∀ r M', Q1 r M' → pm_Fr sc d c2 me (pc + 3) ls (r.toList ++ rest) M' Q) : pm_Fr sc d c me pc ls st M Q := by
  intro hl S N hS hN
  obtain ⟨n1, r1, S1, N1, M1, e1, e2, e3, e4, e5, e6, hF⟩ := hR hl S N hS hN
  obtain ⟨n2, r2, S2, N2, M2, f1, f2, f3, f4, f5, f6⟩ := k r1 M1 hF e6 S1 N1 e2 e3
  refine ⟨(n1 + n2) + 1, r2, S2, N2, M2, ?_, f2, f3, by omega, by omega, f6⟩
  unfold pm_X
  rw [h S N hS]
  simp only []
  have hnd : ¬ (d < 20 ∨ (pm_ent me'.2.2.2.1 as).length ≠ me'.2.2.2.1) := by
    rintro (h1 | h1)
    · omega
    · exact h1 hlen
  rw [if_neg hnd]
  have g1 := pm_X_fuel _ _ _ _ _ _ _ _ _ e1 n2
  have g2 := pm_X_fuel _ _ _ _ _ _ _ _ _ f1 n1
  rw [Nat.add_comm] at g2
  simp only [Option.isSome_none, Bool.false_eq_true, if_false, g1]
  rw [if_neg (h7 _ _ hF)]
  exact g2
theorem fr_iconst {x : Int} (hd : decode me.2.1 pc = .ok (.iconst x, 1)) (hx : -1 ≤ x ∧ x ≤ 5) (k : pm_Fr sc d c me (pc + 1) ls ((0, x) :: st) M Q) : pm_Fr sc d c me pc ls (st) M Q :=
  fr_stq (fun S N hS hN hl => by simp only [pm_step, hd, pm_ins, pm_nx]; rw [if_pos ⟨by trivial, hx.1, hx.2⟩]) k
theorem fr_bipush {x : Int} (hd : decode me.2.1 pc = .ok (.bipush x, 2)) (hx : -128 ≤ x ∧ x ≤ 127) (k : pm_Fr sc d c me (pc + 2) ls ((0, x) :: st) M Q) : pm_Fr sc d c me pc ls (st) M Q :=
  fr_stq (fun S N hS hN hl => by simp only [pm_step, hd, pm_ins, pm_nx]; rw [if_pos ⟨by trivial, hx.1, hx.2⟩]) k
theorem fr_sipush {x : Int} (hd : decode me.2.1 pc = .ok (.sipush x, 3)) (hx : -32768 ≤ x ∧ x ≤ 32767) (k : pm_Fr sc d c me (pc + 3) ls ((0, x) :: st) M Q) : pm_Fr sc d c me pc ls (st) M Q :=
  fr_stq (fun S N hS hN hl => by simp only [pm_step, hd, pm_ins, pm_nx]; rw [if_pos ⟨by trivial, hx.1, hx.2⟩]) k
theorem fr_lconst {x : Fin 2} {v : Int} (hd : decode me.2.1 pc = .ok (.lconst x, 1)) (hv : (x.val : Int) = v) (k : pm_Fr sc d c me (pc + 1) ls ((1, v) :: st) M Q) : pm_Fr sc d c me pc ls (st) M Q :=
  fr_stq (fun S N hS hN hl => by subst hv; simp only [pm_step, hd, pm_ins, pm_nx]; rw [if_pos (by trivial)]) k
theorem fr_ldcs {j i : Nat} {v : Int} (hd : decode me.2.1 pc = .ok (.ldc j, 2)) (hs : pm_st me.2.2.1 j = some i) (hv : (i : Int) = v) (k : pm_Fr sc d c me (pc + 2) ls ((3, v) :: st) M Q) : pm_Fr sc d c me pc ls (st) M Q :=
  fr_stq (fun S N hS hN hl => by subst hv; simp only [pm_step, hd, pm_ins, pm_nx, hs]; rw [if_pos (by trivial)]) k
theorem fr_ldci {j : Nat} {v : Int} (hd : decode me.2.1 pc = .ok (.ldc j, 2)) (h0 : pm_st me.2.2.1 j = none) (hs : pm_cn me.2.2.1 j = some v) (k : pm_Fr sc d c me (pc + 2) ls ((0, v) :: st) M Q) : pm_Fr sc d c me pc ls (st) M Q :=
  fr_stq (fun S N hS hN hl => by simp only [pm_step, hd, pm_ins, pm_nx, h0, hs]; rw [if_pos (by trivial)]) k
theorem fr_ldcw {j : Nat} {v : Int} (hd : decode me.2.1 pc = .ok (.ldc_w j, 3)) (hs : pm_cn me.2.2.1 j = some v) (k : pm_Fr sc d c me (pc + 3) ls ((0, v) :: st) M Q) : pm_Fr sc d c me pc ls (st) M Q :=
  fr_stq (fun S N hS hN hl => by simp only [pm_step, hd, pm_ins, pm_nx, hs]; rw [if_pos (by trivial)]) k
theorem fr_ldc2 {j : Nat} {v : Int} (hd : decode me.2.1 pc = .ok (.ldc2_w j, 3)) (hs : pm_cnL me.2.2.1 j = some v) (k : pm_Fr sc d c me (pc + 3) ls ((1, v) :: st) M Q) : pm_Fr sc d c me pc ls (st) M Q :=
  fr_stq (fun S N hS hN hl => by simp only [pm_step, hd, pm_ins, pm_nx, hs]; rw [if_pos (by trivial)]) k
theorem fr_iload {x : Nat} {v : pm_V} (hd : decode me.2.1 pc = .ok (.iload x, 2)) (hl : ls[x]? = some v) (ho : pm_isI v = true) (k : pm_Fr sc d c me (pc + 2) ls (v :: st) M Q) : pm_Fr sc d c me pc ls (st) M Q :=
  fr_stq (fun S N hS hN hll => by simp only [pm_step, hd, pm_ins, pm_ld, hl, ho, pm_nx, if_true]) k
theorem fr_iload_n {x : Fin 4} {v : pm_V} (hd : decode me.2.1 pc = .ok (.iload_n x, 1)) (hl : ls[x.val]? = some v) (ho : pm_isI v = true) (k : pm_Fr sc d c me (pc + 1) ls (v :: st) M Q) : pm_Fr sc d c me pc ls (st) M Q :=
  fr_stq (fun S N hS hN hll => by simp only [pm_step, hd, pm_ins, pm_ld, hl, ho, pm_nx, if_true]) k
theorem fr_lload {x : Nat} {v : pm_V} (hd : decode me.2.1 pc = .ok (.lload x, 2)) (hl : ls[x]? = some v) (ho : pm_isL v = true) (k : pm_Fr sc d c me (pc + 2) ls (v :: st) M Q) : pm_Fr sc d c me pc ls (st) M Q :=
  fr_stq (fun S N hS hN hll => by simp only [pm_step, hd, pm_ins, pm_ld, hl, ho, pm_nx, if_true]) k
theorem fr_lload_n {x : Fin 4} {v : pm_V} (hd : decode me.2.1 pc = .ok (.lload_n x, 1)) (hl : ls[x.val]? = some v) (ho : pm_isL v = true) (k : pm_Fr sc d c me (pc + 1) ls (v :: st) M Q) : pm_Fr sc d c me pc ls (st) M Q :=
  fr_stq (fun S N hS hN hll => by simp only [pm_step, hd, pm_ins, pm_ld, hl, ho, pm_nx, if_true]) k
theorem fr_aload {x : Nat} {v : pm_V} (hd : decode me.2.1 pc = .ok (.aload x, 2)) (hl : ls[x]? = some v) (ho : pm_isA v = true) (k : pm_Fr sc d c me (pc + 2) ls (v :: st) M Q) : pm_Fr sc d c me pc ls (st) M Q :=
  fr_stq (fun S N hS hN hll => by simp only [pm_step, hd, pm_ins, pm_ld, hl, ho, pm_nx, if_true]) k
theorem fr_aload_n {x : Fin 4} {v : pm_V} (hd : decode me.2.1 pc = .ok (.aload_n x, 1)) (hl : ls[x.val]? = some v) (ho : pm_isA v = true) (k : pm_Fr sc d c me (pc + 1) ls (v :: st) M Q) : pm_Fr sc d c me pc ls (st) M Q :=
  fr_stq (fun S N hS hN hll => by simp only [pm_step, hd, pm_ins, pm_ld, hl, ho, pm_nx, if_true]) k
theorem fr_istore {x : Nat} {v : pm_V} {ls2 : List pm_V} (hd : decode me.2.1 pc = .ok (.istore x, 2)) (ho : pm_isI v = true) (hi : x < ls.length) (hl : pm_st1 ls x v = ls2) (k : pm_Fr sc d c me (pc + 2) ls2 (st) M Q) : pm_Fr sc d c me pc ls (v :: st) M Q :=
  fr_stq (fun S N hS hN hll => by simp only [pm_step, hd, pm_ins, pm_sto, ho, hi, hl, pm_nx, and_self, if_true]) k
theorem fr_istore_n {x : Fin 4} {v : pm_V} {ls2 : List pm_V} (hd : decode me.2.1 pc = .ok (.istore_n x, 1)) (ho : pm_isI v = true) (hi : x.val < ls.length) (hl : pm_st1 ls x.val v = ls2) (k : pm_Fr sc d c me (pc + 1) ls2 (st) M Q) : pm_Fr sc d c me pc ls (v :: st) M Q :=
  fr_stq (fun S N hS hN hll => by simp only [pm_step, hd, pm_ins, pm_sto, ho, hi, hl, pm_nx, and_self, if_true]) k
theorem fr_astore {x : Nat} {v : pm_V} {ls2 : List pm_V} (hd : decode me.2.1 pc = .ok (.astore x, 2)) (ho : pm_isA v = true) (hi : x < ls.length) (hl : pm_st1 ls x v = ls2) (k : pm_Fr sc d c me (pc + 2) ls2 (st) M Q) : pm_Fr sc d c me pc ls (v :: st) M Q :=
  fr_stq (fun S N hS hN hll => by simp only [pm_step, hd, pm_ins, pm_sto, ho, hi, hl, pm_nx, and_self, if_true]) k
theorem fr_astore_n {x : Fin 4} {v : pm_V} {ls2 : List pm_V} (hd : decode me.2.1 pc = .ok (.astore_n x, 1)) (ho : pm_isA v = true) (hi : x.val < ls.length) (hl : pm_st1 ls x.val v = ls2) (k : pm_Fr sc d c me (pc + 1) ls2 (st) M Q) : pm_Fr sc d c me pc ls (v :: st) M Q :=
  fr_stq (fun S N hS hN hll => by simp only [pm_step, hd, pm_ins, pm_sto, ho, hi, hl, pm_nx, and_self, if_true]) k
theorem fr_lstore_n {x : Fin 4} {v : pm_V} {ls2 : List pm_V} (hd : decode me.2.1 pc = .ok (.lstore_n x, 1)) (ho : pm_isL v = true) (hi : x.val + 1 < ls.length) (hl : pm_st2 ls x.val v = ls2) (k : pm_Fr sc d c me (pc + 1) ls2 (st) M Q) : pm_Fr sc d c me pc ls (v :: st) M Q :=
  fr_stq (fun S N hS hN hll => by simp only [pm_step, hd, pm_ins]; rw [if_pos ⟨by trivial, hi⟩]; simp only [pm_sto, ho, show x.val < ls.length from by omega, hl, pm_nx, and_self, if_true]) k
theorem fr_iinc {x : Nat} {n y z : Int} {ls2 : List pm_V} (hd : decode me.2.1 pc = .ok (.iinc x n, 3)) (hi : x < ls.length) (hg : ls[x]? = some (0, y)) (hz : w32 (y + n) = z) (hl : pm_st1 ls x (0, z) = ls2) (k : pm_Fr sc d c me (pc + 3) ls2 (st) M Q) : pm_Fr sc d c me pc ls (st) M Q :=
  fr_stq (fun S N hS hN hll => by subst hz; simp only [pm_step, hd, pm_ins]; rw [if_pos ⟨by trivial, hi⟩]; simp only [pm_ld, hg, pm_isI, beq_self_eq_true, if_true, hl, pm_nx]) k
theorem fr_iadd {a b z : Int} (hd : decode me.2.1 pc = .ok (.iadd, 1)) (hz : w32 (a + b) = z) (k : pm_Fr sc d c me (pc + 1) ls ((0, z) :: st) M Q) : pm_Fr sc d c me pc ls ((0, b) :: (0, a) :: st) M Q :=
  fr_stq (fun S N hS hN hl => by subst hz; simp only [pm_step, hd, pm_ins, pm_nx, pm_bin, if_true]) k
theorem fr_isub {a b z : Int} (hd : decode me.2.1 pc = .ok (.isub, 1)) (hz : w32 (a - b) = z) (k : pm_Fr sc d c me (pc + 1) ls ((0, z) :: st) M Q) : pm_Fr sc d c me pc ls ((0, b) :: (0, a) :: st) M Q :=
  fr_stq (fun S N hS hN hl => by subst hz; simp only [pm_step, hd, pm_ins, pm_nx, pm_bin, if_true]) k
theorem fr_imul {a b z : Int} (hd : decode me.2.1 pc = .ok (.imul, 1)) (hz : w32 (a * b) = z) (k : pm_Fr sc d c me (pc + 1) ls ((0, z) :: st) M Q) : pm_Fr sc d c me pc ls ((0, b) :: (0, a) :: st) M Q :=
  fr_stq (fun S N hS hN hl => by subst hz; simp only [pm_step, hd, pm_ins, pm_nx, pm_bin, if_true]) k
theorem fr_iand {a b z : Int} (hd : decode me.2.1 pc = .ok (.iand, 1)) (hz : pm_iand a b = z) (k : pm_Fr sc d c me (pc + 1) ls ((0, z) :: st) M Q) : pm_Fr sc d c me pc ls ((0, b) :: (0, a) :: st) M Q :=
  fr_stq (fun S N hS hN hl => by subst hz; simp only [pm_step, hd, pm_ins, pm_nx, pm_bin, if_true]) k
theorem fr_ior {a b z : Int} (hd : decode me.2.1 pc = .ok (.ior, 1)) (hz : pm_ior a b = z) (k : pm_Fr sc d c me (pc + 1) ls ((0, z) :: st) M Q) : pm_Fr sc d c me pc ls ((0, b) :: (0, a) :: st) M Q :=
  fr_stq (fun S N hS hN hl => by subst hz; simp only [pm_step, hd, pm_ins, pm_nx, pm_bin, if_true]) k
theorem fr_ixor {a b z : Int} (hd : decode me.2.1 pc = .ok (.ixor, 1)) (hz : pm_ixor a b = z) (k : pm_Fr sc d c me (pc + 1) ls ((0, z) :: st) M Q) : pm_Fr sc d c me pc ls ((0, b) :: (0, a) :: st) M Q :=
  fr_stq (fun S N hS hN hl => by subst hz; simp only [pm_step, hd, pm_ins, pm_nx, pm_bin, if_true]) k
theorem fr_ishl {a b z : Int} (hd : decode me.2.1 pc = .ok (.ishl, 1)) (hz : pm_ishl a b = z) (k : pm_Fr sc d c me (pc + 1) ls ((0, z) :: st) M Q) : pm_Fr sc d c me pc ls ((0, b) :: (0, a) :: st) M Q :=
  fr_stq (fun S N hS hN hl => by subst hz; simp only [pm_step, hd, pm_ins, pm_nx, pm_bin, if_true]) k
theorem fr_ishr {a b z : Int} (hd : decode me.2.1 pc = .ok (.ishr, 1)) (hz : pm_ishr a b = z) (k : pm_Fr sc d c me (pc + 1) ls ((0, z) :: st) M Q) : pm_Fr sc d c me pc ls ((0, b) :: (0, a) :: st) M Q :=
  fr_stq (fun S N hS hN hl => by subst hz; simp only [pm_step, hd, pm_ins, pm_nx, pm_bin, if_true]) k
theorem fr_iushr {a b z : Int} (hd : decode me.2.1 pc = .ok (.iushr, 1)) (hz : pm_iushr a b = z) (k : pm_Fr sc d c me (pc + 1) ls ((0, z) :: st) M Q) : pm_Fr sc d c me pc ls ((0, b) :: (0, a) :: st) M Q :=
  fr_stq (fun S N hS hN hl => by subst hz; simp only [pm_step, hd, pm_ins, pm_nx, pm_bin, if_true]) k
theorem fr_idiv {a b : Int} (hd : decode me.2.1 pc = .ok (.idiv, 1)) (hb : b ≠ 0) (k : pm_Fr sc d c me (pc + 1) ls ((0, w32 (a.tdiv b)) :: st) M Q) : pm_Fr sc d c me pc ls ((0, b) :: (0, a) :: st) M Q :=
  fr_stq (fun S N hS hN hl => by simp only [pm_step, hd, pm_ins, pm_nx]; rw [if_pos ⟨by trivial, hb⟩]) k
theorem fr_irem {a b : Int} (hd : decode me.2.1 pc = .ok (.irem, 1)) (hb : b ≠ 0) (k : pm_Fr sc d c me (pc + 1) ls ((0, a.tmod b) :: st) M Q) : pm_Fr sc d c me pc ls ((0, b) :: (0, a) :: st) M Q :=
  fr_stq (fun S N hS hN hl => by simp only [pm_step, hd, pm_ins, pm_nx]; rw [if_pos ⟨by trivial, hb⟩]) k
theorem fr_ineg {a z : Int} (hd : decode me.2.1 pc = .ok (.ineg, 1)) (hz : w32 (-a) = z) (k : pm_Fr sc d c me (pc + 1) ls ((0, z) :: st) M Q) : pm_Fr sc d c me pc ls ((0, a) :: st) M Q :=
  fr_stq (fun S N hS hN hl => by subst hz; simp only [pm_step, hd, pm_ins, pm_nx, pm_una, if_true]) k
theorem fr_i2b {a z : Int} (hd : decode me.2.1 pc = .ok (.i2b, 1)) (hz : w8 a = z) (k : pm_Fr sc d c me (pc + 1) ls ((0, z) :: st) M Q) : pm_Fr sc d c me pc ls ((0, a) :: st) M Q :=
  fr_stq (fun S N hS hN hl => by subst hz; simp only [pm_step, hd, pm_ins, pm_nx, pm_una, if_true]) k
theorem fr_i2c {a z : Int} (hd : decode me.2.1 pc = .ok (.i2c, 1)) (hz : a % 65536 = z) (k : pm_Fr sc d c me (pc + 1) ls ((0, z) :: st) M Q) : pm_Fr sc d c me pc ls ((0, a) :: st) M Q :=
  fr_stq (fun S N hS hN hl => by subst hz; simp only [pm_step, hd, pm_ins, pm_nx, pm_una, if_true]) k
theorem fr_i2l {a : Int} (hd : decode me.2.1 pc = .ok (.i2l, 1)) (k : pm_Fr sc d c me (pc + 1) ls ((1, a) :: st) M Q) : pm_Fr sc d c me pc ls ((0, a) :: st) M Q :=
  fr_stq (fun S N hS hN hl => by simp only [pm_step, hd, pm_ins, pm_nx, if_true]) k
theorem fr_land {a b : Int} (hd : decode me.2.1 pc = .ok (.land, 1)) (k : pm_Fr sc d c me (pc + 1) ls ((1, pm_land a b) :: st) M Q) : pm_Fr sc d c me pc ls ((1, b) :: (1, a) :: st) M Q :=
  fr_stq (fun S N hS hN hl => by simp only [pm_step, hd, pm_ins, pm_nx, pm_biL, if_true]) k
theorem fr_lor {a b : Int} (hd : decode me.2.1 pc = .ok (.lor, 1)) (k : pm_Fr sc d c me (pc + 1) ls ((1, pm_lor a b) :: st) M Q) : pm_Fr sc d c me pc ls ((1, b) :: (1, a) :: st) M Q :=
  fr_stq (fun S N hS hN hl => by simp only [pm_step, hd, pm_ins, pm_nx, pm_biL, if_true]) k
theorem fr_lshl {a b : Int} (hd : decode me.2.1 pc = .ok (.lshl, 1)) (k : pm_Fr sc d c me (pc + 1) ls ((1, pm_lshl a b) :: st) M Q) : pm_Fr sc d c me pc ls ((0, b) :: (1, a) :: st) M Q :=
  fr_stq (fun S N hS hN hl => by simp only [pm_step, hd, pm_ins, pm_nx, pm_shL, if_true]) k
theorem fr_lshr {a b : Int} (hd : decode me.2.1 pc = .ok (.lshr, 1)) (k : pm_Fr sc d c me (pc + 1) ls ((1, pm_lshr a b) :: st) M Q) : pm_Fr sc d c me pc ls ((0, b) :: (1, a) :: st) M Q :=
  fr_stq (fun S N hS hN hl => by simp only [pm_step, hd, pm_ins, pm_nx, pm_shL, if_true]) k
theorem fr_lcmp {a b : Int} (hd : decode me.2.1 pc = .ok (.lcmp, 1)) (k : pm_Fr sc d c me (pc + 1) ls ((0, pm_lcmp a b) :: st) M Q) : pm_Fr sc d c me pc ls ((1, b) :: (1, a) :: st) M Q :=
  fr_stq (fun S N hS hN hl => by simp only [pm_step, hd, pm_ins, pm_nx, if_true]) k
theorem fr_dup {v : pm_V} (hd : decode me.2.1 pc = .ok (.dup, 1)) (hv : v.1 ≠ 1) (k : pm_Fr sc d c me (pc + 1) ls (v :: v :: st) M Q) : pm_Fr sc d c me pc ls (v :: st) M Q :=
  fr_stq (fun S N hS hN hl => by simp only [pm_step, hd, pm_ins, pm_nx]; rw [if_pos ⟨by trivial, hv⟩]) k
theorem fr_pop {v : pm_V} (hd : decode me.2.1 pc = .ok (.pop, 1)) (hv : v.1 ≠ 1) (k : pm_Fr sc d c me (pc + 1) ls (st) M Q) : pm_Fr sc d c me pc ls (v :: st) M Q :=
  fr_stq (fun S N hS hN hl => by simp only [pm_step, hd, pm_ins, pm_nx]; rw [if_pos ⟨by trivial, hv⟩]) k
theorem fr_dup2 {u v : pm_V} (hd : decode me.2.1 pc = .ok (.dup2, 1)) (hv : v.1 ≠ 1) (hu : u.1 ≠ 1) (k : pm_Fr sc d c me (pc + 1) ls (v :: u :: v :: u :: st) M Q) : pm_Fr sc d c me pc ls (v :: u :: st) M Q :=
  fr_stq (fun S N hS hN hl => by simp only [pm_step, hd, pm_ins, pm_nx]; rw [if_pos ⟨by trivial, hv, hu⟩]) k
theorem fr_goto {off : Int} {tg : Nat} (hd : decode me.2.1 pc = .ok (.goto off, 3)) (ht : (pc : Int) + off = (tg : Int)) (k : pm_Fr sc d c me tg ls (st) M Q) : pm_Fr sc d c me pc ls (st) M Q :=
  fr_stq (fun S N hS hN hl => by simp only [pm_step, hd, pm_ins, pm_jmp, ht, pm_nx, if_true]; rw [if_pos (Int.natCast_nonneg tg), Int.toNat_natCast]) k
theorem fr_ifcT {kd : Jvm.ClassFile.Cond} {off a : Int} {tg : Nat} (hd : decode me.2.1 pc = .ok (.ifCond kd off, 3)) (hc : pm_cnd kd a 0 = true) (ht : (pc : Int) + off = (tg : Int)) (k : pm_Fr sc d c me tg ls (st) M Q) : pm_Fr sc d c me pc ls ((0, a) :: st) M Q :=
  fr_stq (fun S N hS hN hl => by simp only [pm_step, hd, pm_ins, pm_jmp, ht, pm_nx, hc, if_true]; rw [if_pos (Int.natCast_nonneg tg), Int.toNat_natCast]) k
theorem fr_ifcF {kd : Jvm.ClassFile.Cond} {off a : Int} {tg : Nat} (hd : decode me.2.1 pc = .ok (.ifCond kd off, 3)) (hc : pm_cnd kd a 0 = false) (ht : (pc : Int) + off = (tg : Int)) (k : pm_Fr sc d c me (pc + 3) ls (st) M Q) : pm_Fr sc d c me pc ls ((0, a) :: st) M Q :=
  fr_stq (fun S N hS hN hl => by simp only [pm_step, hd, pm_ins, pm_jmp, ht, pm_nx, hc, if_true, Bool.false_eq_true, if_false]; rw [if_pos (Int.natCast_nonneg tg)]) k
theorem fr_ifc_eq {off a : Int} {tg : Nat} {A B : Prop} (hd : decode me.2.1 pc = .ok (.ifCond .eq off, 3)) (ht : (pc : Int) + off = (tg : Int)) (hq : if a = 0 then A else B) (k1 : a = 0 → A → pm_Fr sc d c me tg ls (st) M Q) (k2 : ¬ a = 0 → B → pm_Fr sc d c me (pc + 3) ls (st) M Q) : pm_Fr sc d c me pc ls ((0, a) :: st) M Q :=
  pm_ite hq (fun h1 h => fr_ifcT hd (decide_eq_true h1) ht (k1 h1 h)) (fun h1 h => fr_ifcF hd (decide_eq_false h1) ht (k2 h1 h))
theorem fr_ifc_ne {off a : Int} {tg : Nat} {A B : Prop} (hd : decode me.2.1 pc = .ok (.ifCond .ne off, 3)) (ht : (pc : Int) + off = (tg : Int)) (hq : if a = 0 then A else B) (k1 : a = 0 → A → pm_Fr sc d c me (pc + 3) ls (st) M Q) (k2 : ¬ a = 0 → B → pm_Fr sc d c me tg ls (st) M Q) : pm_Fr sc d c me pc ls ((0, a) :: st) M Q :=
  pm_ite hq (fun h1 h => fr_ifcF hd (decide_eq_false (fun z => z h1)) ht (k1 h1 h)) (fun h1 h => fr_ifcT hd (decide_eq_true h1) ht (k2 h1 h))
theorem fr_ifc_lt {off a : Int} {tg : Nat} {A B : Prop} (hd : decode me.2.1 pc = .ok (.ifCond .lt off, 3)) (ht : (pc : Int) + off = (tg : Int)) (hq : if a < 0 then A else B) (k1 : a < 0 → A → pm_Fr sc d c me tg ls (st) M Q) (k2 : ¬ a < 0 → B → pm_Fr sc d c me (pc + 3) ls (st) M Q) : pm_Fr sc d c me pc ls ((0, a) :: st) M Q :=
  pm_ite hq (fun h1 h => fr_ifcT hd (decide_eq_true h1) ht (k1 h1 h)) (fun h1 h => fr_ifcF hd (decide_eq_false h1) ht (k2 h1 h))
theorem fr_ifc_ge {off a : Int} {tg : Nat} {A B : Prop} (hd : decode me.2.1 pc = .ok (.ifCond .ge off, 3)) (ht : (pc : Int) + off = (tg : Int)) (hq : if a < 0 then A else B) (k1 : a < 0 → A → pm_Fr sc d c me (pc + 3) ls (st) M Q) (k2 : ¬ a < 0 → B → pm_Fr sc d c me tg ls (st) M Q) : pm_Fr sc d c me pc ls ((0, a) :: st) M Q :=
  pm_ite hq (fun h1 h => fr_ifcF hd (decide_eq_false (by omega)) ht (k1 h1 h)) (fun h1 h => fr_ifcT hd (decide_eq_true (by omega)) ht (k2 h1 h))
theorem fr_ifc_le {off a : Int} {tg : Nat} {A B : Prop} (hd : decode me.2.1 pc = .ok (.ifCond .le off, 3)) (ht : (pc : Int) + off = (tg : Int)) (hq : if a ≤ 0 then A else B) (k1 : a ≤ 0 → A → pm_Fr sc d c me tg ls (st) M Q) (k2 : ¬ a ≤ 0 → B → pm_Fr sc d c me (pc + 3) ls (st) M Q) : pm_Fr sc d c me pc ls ((0, a) :: st) M Q :=
  pm_ite hq (fun h1 h => fr_ifcT hd (decide_eq_true h1) ht (k1 h1 h)) (fun h1 h => fr_ifcF hd (decide_eq_false h1) ht (k2 h1 h))
theorem fr_ifc_gt {off a : Int} {tg : Nat} {A B : Prop} (hd : decode me.2.1 pc = .ok (.ifCond .gt off, 3)) (ht : (pc : Int) + off = (tg : Int)) (hq : if a ≤ 0 then A else B) (k1 : a ≤ 0 → A → pm_Fr sc d c me (pc + 3) ls (st) M Q) (k2 : ¬ a ≤ 0 → B → pm_Fr sc d c me tg ls (st) M Q) : pm_Fr sc d c me pc ls ((0, a) :: st) M Q :=
  pm_ite hq (fun h1 h => fr_ifcF hd (decide_eq_false (by omega)) ht (k1 h1 h)) (fun h1 h => fr_ifcT hd (decide_eq_true (by omega)) ht (k2 h1 h))
theorem fr_icmT {kd : Jvm.ClassFile.Cond} {off a b : Int} {tg : Nat} (hd : decode me.2.1 pc = .ok (.if_icmp kd off, 3)) (hc : pm_cnd kd a b = true) (ht : (pc : Int) + off = (tg : Int)) (k : pm_Fr sc d c me tg ls (st) M Q) : pm_Fr sc d c me pc ls ((0, b) :: (0, a) :: st) M Q :=
  fr_stq (fun S N hS hN hl => by simp only [pm_step, hd, pm_ins, pm_jmp, ht, pm_nx, hc, if_true]; rw [if_pos (Int.natCast_nonneg tg), Int.toNat_natCast]) k
theorem fr_icmF {kd : Jvm.ClassFile.Cond} {off a b : Int} {tg : Nat} (hd : decode me.2.1 pc = .ok (.if_icmp kd off, 3)) (hc : pm_cnd kd a b = false) (ht : (pc : Int) + off = (tg : Int)) (k : pm_Fr sc d c me (pc + 3) ls (st) M Q) : pm_Fr sc d c me pc ls ((0, b) :: (0, a) :: st) M Q :=
  fr_stq (fun S N hS hN hl => by simp only [pm_step, hd, pm_ins, pm_jmp, ht, pm_nx, hc, if_true, Bool.false_eq_true, if_false]; rw [if_pos (Int.natCast_nonneg tg)]) k
theorem fr_icm_eq {off a b : Int} {tg : Nat} {A B : Prop} (hd : decode me.2.1 pc = .ok (.if_icmp .eq off, 3)) (ht : (pc : Int) + off = (tg : Int)) (hq : if a = b then A else B) (k1 : a = b → A → pm_Fr sc d c me tg ls (st) M Q) (k2 : ¬ a = b → B → pm_Fr sc d c me (pc + 3) ls (st) M Q) : pm_Fr sc d c me pc ls ((0, b) :: (0, a) :: st) M Q :=
  pm_ite hq (fun h1 h => fr_icmT hd (decide_eq_true h1) ht (k1 h1 h)) (fun h1 h => fr_icmF hd (decide_eq_false h1) ht (k2 h1 h))
theorem fr_icm_ne {off a b : Int} {tg : Nat} {A B : Prop} (hd : decode me.2.1 pc = .ok (.if_icmp .ne off, 3)) (ht : (pc : Int) + off = (tg : Int)) (hq : if a = b then A else B) (k1 : a = b → A → pm_Fr sc d c me (pc + 3) ls (st) M Q) (k2 : ¬ a = b → B → pm_Fr sc d c me tg ls (st) M Q) : pm_Fr sc d c me pc ls ((0, b) :: (0, a) :: st) M Q :=
  pm_ite hq (fun h1 h => fr_icmF hd (decide_eq_false (fun z => z h1)) ht (k1 h1 h)) (fun h1 h => fr_icmT hd (decide_eq_true h1) ht (k2 h1 h))
theorem fr_icm_lt {off a b : Int} {tg : Nat} {A B : Prop} (hd : decode me.2.1 pc = .ok (.if_icmp .lt off, 3)) (ht : (pc : Int) + off = (tg : Int)) (hq : if a < b then A else B) (k1 : a < b → A → pm_Fr sc d c me tg ls (st) M Q) (k2 : ¬ a < b → B → pm_Fr sc d c me (pc + 3) ls (st) M Q) : pm_Fr sc d c me pc ls ((0, b) :: (0, a) :: st) M Q :=
  pm_ite hq (fun h1 h => fr_icmT hd (decide_eq_true h1) ht (k1 h1 h)) (fun h1 h => fr_icmF hd (decide_eq_false h1) ht (k2 h1 h))
theorem fr_icm_ge {off a b : Int} {tg : Nat} {A B : Prop} (hd : decode me.2.1 pc = .ok (.if_icmp .ge off, 3)) (ht : (pc : Int) + off = (tg : Int)) (hq : if a < b then A else B) (k1 : a < b → A → pm_Fr sc d c me (pc + 3) ls (st) M Q) (k2 : ¬ a < b → B → pm_Fr sc d c me tg ls (st) M Q) : pm_Fr sc d c me pc ls ((0, b) :: (0, a) :: st) M Q :=
  pm_ite hq (fun h1 h => fr_icmF hd (decide_eq_false (by omega)) ht (k1 h1 h)) (fun h1 h => fr_icmT hd (decide_eq_true (by omega)) ht (k2 h1 h))
theorem fr_icm_le {off a b : Int} {tg : Nat} {A B : Prop} (hd : decode me.2.1 pc = .ok (.if_icmp .le off, 3)) (ht : (pc : Int) + off = (tg : Int)) (hq : if a ≤ b then A else B) (k1 : a ≤ b → A → pm_Fr sc d c me tg ls (st) M Q) (k2 : ¬ a ≤ b → B → pm_Fr sc d c me (pc + 3) ls (st) M Q) : pm_Fr sc d c me pc ls ((0, b) :: (0, a) :: st) M Q :=
  pm_ite hq (fun h1 h => fr_icmT hd (decide_eq_true h1) ht (k1 h1 h)) (fun h1 h => fr_icmF hd (decide_eq_false h1) ht (k2 h1 h))
theorem fr_icm_gt {off a b : Int} {tg : Nat} {A B : Prop} (hd : decode me.2.1 pc = .ok (.if_icmp .gt off, 3)) (ht : (pc : Int) + off = (tg : Int)) (hq : if a ≤ b then A else B) (k1 : a ≤ b → A → pm_Fr sc d c me (pc + 3) ls (st) M Q) (k2 : ¬ a ≤ b → B → pm_Fr sc d c me tg ls (st) M Q) : pm_Fr sc d c me pc ls ((0, b) :: (0, a) :: st) M Q :=
  pm_ite hq (fun h1 h => fr_icmF hd (decide_eq_false (by omega)) ht (k1 h1 h)) (fun h1 h => fr_icmT hd (decide_eq_true (by omega)) ht (k2 h1 h))
theorem fr_tableO {dflt lo hi a : Int} {offs : Array Int} {tg : Nat} {ln : Nat} (hd : decode me.2.1 pc = .ok (.tableswitch dflt lo hi offs, ln)) (hc : a < lo ∨ hi < a) (ht : (pc : Int) + dflt = (tg : Int)) (k : pm_Fr sc d c me tg ls (st) M Q) : pm_Fr sc d c me pc ls ((0, a) :: st) M Q :=
  fr_stq (fun S N hS hN hl => by simp only [pm_step, hd, pm_ins, pm_jmp, if_pos hc, ht, pm_nx]; rw [if_pos (Int.natCast_nonneg tg), Int.toNat_natCast, if_pos (Or.inl hc)]) k
theorem fr_tableI {dflt lo hi a off : Int} {offs : Array Int} {tg : Nat} {ln : Nat} (hd : decode me.2.1 pc = .ok (.tableswitch dflt lo hi offs, ln)) (hc : ¬ (a < lo ∨ hi < a)) (ho : offs.toList[(a - lo).toNat]? = some off) (ht : (pc : Int) + off = (tg : Int)) (k : pm_Fr sc d c me tg ls (st) M Q) : pm_Fr sc d c me pc ls ((0, a) :: st) M Q :=
  fr_stq (fun S N hS hN hl => by
    have hlt : (a - lo).toNat < offs.size := (List.getElem?_eq_some_iff.mp ho).1
    simp only [pm_step, hd, pm_ins, pm_jmp, if_neg hc, pm_nx]
    rw [List.getD_eq_getElem?_getD, ho, Option.getD_some, ht, if_pos (Int.natCast_nonneg tg), Int.toNat_natCast, if_pos (Or.inr hlt)]) k
theorem fr_lookup {dflt a off : Int} {ps : Array (Int × Int)} {tg : Nat} {ln : Nat} (hd : decode me.2.1 pc = .ok (.lookupswitch dflt ps, ln)) (hp : (ps.toList.zip (ps.toList.drop 1)).all (fun (a, next) => a.1 < next.1) = true) (ho : Op.lookupswitch.offset ps.toList dflt a = off) (ht : (pc : Int) + off = (tg : Int)) (k : pm_Fr sc d c me tg ls (st) M Q) : pm_Fr sc d c me pc ls ((0, a) :: st) M Q :=
  fr_stq (fun S N hS hN hl => by simp only [pm_step, hd, pm_ins, pm_jmp, pm_nx]; rw [if_pos hp, ho, ht, if_pos (Int.natCast_nonneg tg), Int.toNat_natCast]) k
theorem fr_tabV {dflt lo hi a v off : Int} {offs : Array Int} {tg : Nat} {ln : Nat} (hd : decode me.2.1 pc = .ok (.tableswitch dflt lo hi offs, ln)) (hv : a = v) (hc : ¬ (v < lo ∨ hi < v)) (ho : offs.toList[(v - lo).toNat]? = some off) (ht : (pc : Int) + off = (tg : Int)) (k : pm_Fr sc d c me tg ls (st) M Q) : pm_Fr sc d c me pc ls ((0, a) :: st) M Q :=
  fr_tableI hd (by rw [hv]; exact hc) (by rw [hv]; exact ho) ht k
theorem fr_lookV {dflt a v off : Int} {ps : Array (Int × Int)} {tg : Nat} {ln : Nat} (hd : decode me.2.1 pc = .ok (.lookupswitch dflt ps, ln)) (hp : (ps.toList.zip (ps.toList.drop 1)).all (fun (a, next) => a.1 < next.1) = true) (hv : a = v) (ho : Op.lookupswitch.offset ps.toList dflt v = off) (ht : (pc : Int) + off = (tg : Int)) (k : pm_Fr sc d c me tg ls (st) M Q) : pm_Fr sc d c me pc ls ((0, a) :: st) M Q :=
  fr_lookup hd hp (by rw [hv]; exact ho) ht k
theorem fr_getf {j a ci n kf : Nat} {x i v : Int} {t : Nat} (hd : decode me.2.1 pc = .ok (.getfield j, 3)) (hx : x = (a : Int)) (hf : pm_fld me.2.2.1 j = some (ci, kf)) (hk : i.toNat = kf) (hs : pm_S0[a]? = some (ci, n)) (h2 : pm_ft ci kf = t) (hv : gI M a i = v) (k : pm_Fr sc d c me (pc + 3) ls ((t, v) :: st) M Q) : pm_Fr sc d c me pc ls ((2, x) :: st) M Q :=
  fr_stq (fun S N hS hN hl => by
    subst hx; subst hk; subst hv; subst h2
    have e2 : N a i.toNat = gI M a i := hN.g hs i
    simp only [pm_step, hd, pm_ins, pm_nx, hf, Int.toNat_natCast, hS.fs hs, e2, if_true]
    rw [if_pos ⟨by trivial, Int.natCast_nonneg a⟩]) k
theorem fr_getr {j a ci n kf : Nat} {x v : Int} (hd : decode me.2.1 pc = .ok (.getfield j, 3)) (hx : x = (a : Int)) (hf : pm_fld me.2.2.1 j = some (ci, kf)) (hs : pm_S0[a]? = some (ci, n)) (h2 : pm_ft ci kf = 2) (hv : (a, kf, v) ∈ pm_refs) (k : pm_Fr sc d c me (pc + 3) ls ((2, v) :: st) M Q) : pm_Fr sc d c me pc ls ((2, x) :: st) M Q :=
  fr_stq (fun S N hS hN hl => by
    subst hx
    have e2 : N a kf = v := by rw [hN a (pm_S0lt hs)]; exact hl.g hv
    simp only [pm_step, hd, pm_ins, pm_nx, hf, Int.toNat_natCast, hS.fs hs, e2, h2, if_true]
    rw [if_pos ⟨by trivial, Int.natCast_nonneg a⟩]) k
theorem fr_put {j a ci n kf : Nat} {x i : Int} {v : pm_V} {y : Int} (hd : decode me.2.1 pc = .ok (.putfield j, 3)) (hx : x = (a : Int)) (hf : pm_fld me.2.2.1 j = some (ci, kf)) (hk : i.toNat = kf) (hs : pm_S0[a]? = some (ci, n)) (ho : pm_okF ci kf v = true) (hn : (pm_T ci kf).2.2.2 = false) (hr : pm_nf a i.toNat = true) (hy : v.2 = y) (k : pm_Fr sc d c me (pc + 3) ls (st) (upI M a i y) Q) : pm_Fr sc d c me pc ls (v :: (2, x) :: st) M Q :=
  fr_stp (fun hl => hl.up hr) (fun S N hS hN => ⟨pm_up N a i.toNat y, by
    subst hx; subst hk; subst hy
    simp only [pm_step, hd, pm_ins, pm_nx, hf, Int.toNat_natCast, hS.fs hs, ho, hn]
    rw [if_pos ⟨by trivial, Int.natCast_nonneg a⟩, if_pos ⟨by trivial, by trivial, fun h => by cases h⟩], hN.up _ _ _⟩) k
theorem fr_iaload {a n : Nat} {x i v : Int} (hd : decode me.2.1 pc = .ok (.iaload, 1)) (hx : x = (a : Int)) (hs : pm_S0[a]? = some (14, n)) (hi : 0 ≤ i ∧ i < (n : Int)) (hv : gI M a i = v) (k : pm_Fr sc d c me (pc + 1) ls ((0, v) :: st) M Q) : pm_Fr sc d c me pc ls ((0, i) :: (2, x) :: st) M Q :=
  fr_stq (fun S N hS hN hl => by
    subst hx; subst hv
    have e2 : N a i.toNat = gI M a i := hN.g hs i
    simp only [pm_step, hd, pm_ins, pm_nx, pm_arr, Int.toNat_natCast, hS.at hs, e2, if_true]
    rw [if_pos ⟨Int.natCast_nonneg a, hi.1⟩, if_pos ⟨by trivial, by omega⟩]) k
theorem fr_laload {a n : Nat} {x i v : Int} (hd : decode me.2.1 pc = .ok (.laload, 1)) (hx : x = (a : Int)) (hs : pm_S0[a]? = some (15, n)) (hi : 0 ≤ i ∧ i < (n : Int)) (hv : gI M a i = v) (k : pm_Fr sc d c me (pc + 1) ls ((1, v) :: st) M Q) : pm_Fr sc d c me pc ls ((0, i) :: (2, x) :: st) M Q :=
  fr_stq (fun S N hS hN hl => by
    subst hx; subst hv
    have e2 : N a i.toNat = gI M a i := hN.g hs i
    simp only [pm_step, hd, pm_ins, pm_nx, pm_arr, Int.toNat_natCast, hS.at hs, e2, if_true]
    rw [if_pos ⟨Int.natCast_nonneg a, hi.1⟩, if_pos ⟨by trivial, by omega⟩]) k
theorem fr_baload {a n ck : Nat} {x i v : Int} (hd : decode me.2.1 pc = .ok (.baload, 1)) (hx : x = (a : Int)) (hs : pm_S0[a]? = some (ck, n)) (hi : 0 ≤ i ∧ i < (n : Int)) (hk : ck = 13 ∨ ck = 16) (hv : gI M a i = v) (k : pm_Fr sc d c me (pc + 1) ls ((0, v) :: st) M Q) : pm_Fr sc d c me pc ls ((0, i) :: (2, x) :: st) M Q :=
  fr_stq (fun S N hS hN hl => by
    subst hx; subst hv
    have e2 : N a i.toNat = gI M a i := hN.g hs i
    have e3 : (ck == 13 || ck == 16) = true := by rcases hk with rfl | rfl <;> rfl
    simp only [pm_step, hd, pm_ins, pm_nx, pm_arr, Int.toNat_natCast, hS.at hs, e2, e3, if_true]
    rw [if_pos ⟨Int.natCast_nonneg a, hi.1⟩, if_pos ⟨by trivial, by omega⟩]) k
def pm_rows (a n : Nat) : Prop := ∀ i, i < n → (a, i, ((a + 1 + i : Nat) : Int)) ∈ pm_refs
theorem fr_aaload {a n : Nat} {x i : Int} (hd : decode me.2.1 pc = .ok (.aaload, 1)) (hx : x = (a : Int)) (hs : pm_S0[a]? = some (17, n)) (hi : 0 ≤ i ∧ i < (n : Int)) (hr : pm_rows a n) (k : pm_Fr sc d c me (pc + 1) ls ((2, ((a + 1 + i.toNat : Nat) : Int)) :: st) M Q) : pm_Fr sc d c me pc ls ((0, i) :: (2, x) :: st) M Q :=
  fr_stq (fun S N hS hN hl => by
    subst hx
    have e2 : N a i.toNat = ((a + 1 + i.toNat : Nat) : Int) := by rw [hN a (pm_S0lt hs)]; exact hl.g (hr _ (by omega))
    simp only [pm_step, hd, pm_ins, pm_nx, pm_arr, Int.toNat_natCast, hS.at hs, e2, if_true]
    rw [if_pos ⟨Int.natCast_nonneg a, hi.1⟩, if_pos ⟨by trivial, by omega⟩]) k
theorem fr_iastore {a n : Nat} {x i v : Int} (hd : decode me.2.1 pc = .ok (.iastore, 1)) (hx : x = (a : Int)) (hs : pm_S0[a]? = some (14, n)) (hi : 0 ≤ i ∧ i < (n : Int)) (hr : pm_nr a = true) (k : pm_Fr sc d c me (pc + 1) ls (st) (upI M a i v) Q) : pm_Fr sc d c me pc ls ((0, v) :: (0, i) :: (2, x) :: st) M Q :=
  fr_stp (fun hl => hl.up (pm_nr_nf hr _)) (fun S N hS hN => ⟨pm_up N a i.toNat v, by
    subst hx
    simp only [pm_step, hd, pm_ins, pm_nx, pm_arr, Int.toNat_natCast, hS.at hs, if_true]
    rw [if_pos ⟨Int.natCast_nonneg a, hi.1⟩, if_pos ⟨by trivial, by omega⟩], hN.up _ _ _⟩) k
theorem fr_lastore {a n : Nat} {x i v : Int} (hd : decode me.2.1 pc = .ok (.lastore, 1)) (hx : x = (a : Int)) (hs : pm_S0[a]? = some (15, n)) (hi : 0 ≤ i ∧ i < (n : Int)) (hr : pm_nr a = true) (k : pm_Fr sc d c me (pc + 1) ls (st) (upI M a i v) Q) : pm_Fr sc d c me pc ls ((1, v) :: (0, i) :: (2, x) :: st) M Q :=
  fr_stp (fun hl => hl.up (pm_nr_nf hr _)) (fun S N hS hN => ⟨pm_up N a i.toNat v, by
    subst hx
    simp only [pm_step, hd, pm_ins, pm_nx, pm_arr, Int.toNat_natCast, hS.at hs, if_true]
    rw [if_pos ⟨Int.natCast_nonneg a, hi.1⟩, if_pos ⟨by trivial, by omega⟩], hN.up _ _ _⟩) k
theorem fr_bastore {a n : Nat} {x i v : Int} (hd : decode me.2.1 pc = .ok (.bastore, 1)) (hx : x = (a : Int)) (hs : pm_S0[a]? = some (13, n)) (hi : 0 ≤ i ∧ i < (n : Int)) (hr : pm_nr a = true) (k : pm_Fr sc d c me (pc + 1) ls (st) (upI M a i (w8 v)) Q) : pm_Fr sc d c me pc ls ((0, v) :: (0, i) :: (2, x) :: st) M Q :=
  fr_stp (fun hl => hl.up (pm_nr_nf hr _)) (fun S N hS hN => ⟨pm_up N a i.toNat (w8 v), by
    subst hx
    simp only [pm_step, hd, pm_ins, pm_nx, pm_arr, Int.toNat_natCast, hS.at hs, if_true]
    rw [if_pos ⟨Int.natCast_nonneg a, hi.1⟩, if_pos ⟨by trivial, by omega⟩], hN.up _ _ _⟩) k
theorem fr_zastore {a n : Nat} {x i v : Int} (hd : decode me.2.1 pc = .ok (.bastore, 1)) (hx : x = (a : Int)) (hs : pm_S0[a]? = some (16, n)) (hi : 0 ≤ i ∧ i < (n : Int)) (hr : pm_nr a = true) (hv : v = 0 ∨ v = 1) (k : pm_Fr sc d c me (pc + 1) ls (st) (upI M a i v) Q) : pm_Fr sc d c me pc ls ((0, v) :: (0, i) :: (2, x) :: st) M Q :=
  fr_stp (fun hl => hl.up (pm_nr_nf hr _)) (fun S N hS hN => ⟨pm_up N a i.toNat v, by
    subst hx
    have e3 : w8 v = v := by rcases hv with rfl | rfl <;> rfl
    have e4 : ((16 : Nat) == 13 || ((16 : Nat) == 16 && (v == 0 || v == 1))) = true := by rcases hv with rfl | rfl <;> rfl
    simp only [pm_step, hd, pm_ins, pm_nx, pm_arr, Int.toNat_natCast, hS.at hs, e3, e4, if_true]
    rw [if_pos ⟨Int.natCast_nonneg a, hi.1⟩, if_pos ⟨by trivial, by omega⟩], hN.up _ _ _⟩) k
theorem fr_alen {a n ck : Nat} {x v : Int} (hd : decode me.2.1 pc = .ok (.arraylength, 1)) (hx : x = (a : Int)) (hs : pm_S0[a]? = some (ck, n)) (hk : 13 ≤ ck ∧ ck ≤ 17 ∧ n < 2147483648) (hv : (n : Int) = v) (k : pm_Fr sc d c me (pc + 1) ls ((0, v) :: st) M Q) : pm_Fr sc d c me pc ls ((2, x) :: st) M Q :=
  fr_stq (fun S N hS hN hl => by
    subst hx; subst hv
    simp only [pm_step, hd, pm_ins, pm_nx, Int.toNat_natCast, hS.at hs]
    rw [if_pos ⟨by trivial, Int.natCast_nonneg a⟩, if_pos hk]) k
theorem fr_getst {j : Nat} (hd : decode me.2.1 pc = .ok (.getstatic j, 3)) (hs : pm_sg me.2.2.1 j = some 0) (k : pm_Fr sc d c me (pc + 3) ls ((0, 1) :: st) M Q) : pm_Fr sc d c me pc ls (st) M Q :=
  fr_stq (fun S N hS hN hl => by simp only [pm_step, hd, pm_ins, pm_nx, hs]; rw [if_pos (by trivial)]) k
theorem fr_getst6 {j : Nat} (hd : decode me.2.1 pc = .ok (.getstatic j, 3)) (hs : pm_sg me.2.2.1 j = some 1) (k : pm_Fr sc d c me (pc + 3) ls ((6, 0) :: st) M Q) : pm_Fr sc d c me pc ls (st) M Q :=
  fr_stq (fun S N hS hN hl => by simp only [pm_step, hd, pm_ins, pm_nx, hs]; rw [if_pos (by trivial)]) k
theorem fr_tval {j : Nat} {a : Int} (hd : decode me.2.1 pc = .ok (.getfield j, 3)) (ha : 0 ≤ a ∧ a < 10) (hs : pm_sf me.2.2.1 j = some 0) (k : pm_Fr sc d c me (pc + 3) ls ((5, a) :: st) M Q) : pm_Fr sc d c me pc ls ((3, a) :: st) M Q :=
  fr_stq (fun S N hS hN hl => by simp only [pm_step, hd, pm_ins, pm_nx, hs]; rw [if_pos ⟨by trivial, ha.1, ha.2⟩]) k
theorem fr_tcod {j : Nat} {a : Int} (hd : decode me.2.1 pc = .ok (.getfield j, 3)) (ha : 0 ≤ a ∧ a < 10) (hs : pm_sf me.2.2.1 j = some 1) (k : pm_Fr sc d c me (pc + 3) ls ((0, 0) :: st) M Q) : pm_Fr sc d c me pc ls ((3, a) :: st) M Q :=
  fr_stq (fun S N hS hN hl => by simp only [pm_step, hd, pm_ins, pm_nx, hs]; rw [if_pos ⟨by trivial, ha.1, ha.2⟩]) k
theorem fr_tald {i a : Int} (hd : decode me.2.1 pc = .ok (.baload, 1)) (ha : 0 ≤ a ∧ a < 10) (hi : 0 ≤ i ∧ i < ((pm_txt a.toNat).length : Int)) (k : pm_Fr sc d c me (pc + 1) ls ((0, (pm_txt a.toNat).getD i.toNat 0) :: st) M Q) : pm_Fr sc d c me pc ls ((0, i) :: (5, a) :: st) M Q :=
  fr_stq (fun S N hS hN hl => by simp only [pm_step, hd, pm_ins, pm_nx]; rw [if_pos ⟨by trivial, ha.1, ha.2, hi.1, by omega⟩]) k
theorem fr_tlen {a : Int} (hd : decode me.2.1 pc = .ok (.arraylength, 1)) (ha : 0 ≤ a ∧ a < 10) (k : pm_Fr sc d c me (pc + 1) ls ((0, ((pm_txt a.toNat).length : Int)) :: st) M Q) : pm_Fr sc d c me pc ls ((5, a) :: st) M Q :=
  fr_stq (fun S N hS hN hl => by simp only [pm_step, hd, pm_ins, pm_nx]; rw [if_pos ⟨by trivial, ha.1, ha.2⟩]) k
theorem fr_sald {i z : Int} (hd : decode me.2.1 pc = .ok (.iaload, 1)) (hi : 0 ≤ i ∧ i < (sc.1 : Int)) (k : pm_Fr sc d c me (pc + 1) ls ((0, sc.2 i.toNat) :: st) M Q) : pm_Fr sc d c me pc ls ((0, i) :: (4, z) :: st) M Q :=
  fr_stq (fun S N hS hN hl => by simp only [pm_step, hd, pm_ins, pm_nx]; rw [if_pos ⟨by trivial, hi.1, by omega⟩]) k
theorem fr_slen {z : Int} (hd : decode me.2.1 pc = .ok (.arraylength, 1)) (hi : sc.1 < 2147483648) (k : pm_Fr sc d c me (pc + 1) ls ((0, (sc.1 : Int)) :: st) M Q) : pm_Fr sc d c me pc ls ((4, z) :: st) M Q :=
  fr_stq (fun S N hS hN hl => by simp only [pm_step, hd, pm_ins, pm_nx]; rw [if_pos ⟨by trivial, hi⟩]) k
theorem fr_iret {x : Int} {K : Int → pm_M → Prop} (hd : decode me.2.1 pc = .ok (.ireturn, 1)) (hr : me.2.2.2.2.1 = 0 ∨ (me.2.2.2.2.1 = 5 ∧ (x = 0 ∨ x = 1)) ∨ (me.2.2.2.2.1 = 7 ∧ 0 ≤ x ∧ x < 65536) ∨ (me.2.2.2.2.1 = 8 ∧ -128 ≤ x ∧ x < 128)) (k : K x M) : pm_Fr sc d c me pc ls [(0, x)] M (qI K) :=
  fr_ret (fun S N => by simp only [pm_step, hd, pm_ins]; rw [if_pos ⟨by trivial, hr⟩]) (fun x h => by cases h) ⟨x, rfl, k⟩
theorem fr_iretT {x : Int} {K : Int → Int → pm_M → Prop} (hd : decode me.2.1 pc = .ok (.ireturn, 1)) (hr : me.2.2.2.2.1 = 0) (k : K 0 x M) : pm_Fr sc d c me pc ls [(0, x)] M (qT K) :=
  fr_ret (fun S N => by simp only [pm_step, hd, pm_ins]; rw [if_pos ⟨by trivial, Or.inl hr⟩]) (fun x h => by cases h) (Or.inl ⟨x, rfl, k⟩)
theorem fr_lret {x : Int} {K : Int → pm_M → Prop} (hd : decode me.2.1 pc = .ok (.lreturn, 1)) (hr : me.2.2.2.2.1 = 1) (k : K x M) : pm_Fr sc d c me pc ls [(1, x)] M (qL K) :=
  fr_ret (fun S N => by simp only [pm_step, hd, pm_ins]; rw [if_pos ⟨by trivial, hr⟩]) (fun x h => by cases h) ⟨x, rfl, k⟩
theorem fr_vret {K : pm_M → Prop} (hd : decode me.2.1 pc = .ok (.return_, 1)) (hr : me.2.2.2.2.1 = 6) (k : K M) : pm_Fr sc d c me pc ls [] M (qV K) :=
  fr_ret (fun S N => by simp only [pm_step, hd, pm_ins]; rw [if_pos ⟨by trivial, by trivial, hr⟩]) (fun x h => by cases h) ⟨rfl, k⟩
theorem fr_thr {j : Nat} {K : Int → Int → pm_M → Prop} (hd : decode me.2.1 pc = .ok (.new j, 3)) (h1 : pm_cl me.2.2.1 j = none) (h2 : (me.2.2.1, j) ∈ pm_exc) (h3 : pm_thr me pc = true) (hc : 1 ≤ c) (k : K 1 0 M) : pm_Fr sc d c me pc ls [] M (qT K) := by
  intro hl S N hS hN
  have hst : pm_step sc me pc ls [] S N = some (.inr (.inr (some (7, 0)))) := by
    simp only [pm_step, hd, pm_ins, h1]
    rw [if_pos (by trivial), if_pos ⟨h2, by trivial, h3⟩]
  refine ⟨1, some (7, 0), S ++ [(18, 6)], N, M, ?_, ?_, hN, ?_, ?_, hl, Or.inr ⟨0, rfl, k⟩⟩
  · unfold pm_X
    rw [hst]
    rfl
  · obtain ⟨X, rfl⟩ := hS
    exact ⟨X ++ [(18, 6)], by rw [List.append_assoc]⟩
  · rw [List.length_append]
    show S.length + 1 ≤ _
    omega
  · have e : ∀ (A : pm_S) (q : Nat × Nat), pm_sz (A ++ [q]) = pm_sz A + q.2 := by
      intro A q
      induction A with
      | nil => show q.2 + pm_sz [] = pm_sz [] + q.2; exact Nat.add_comm _ _
      | cons b t ih => show b.2 + pm_sz (t ++ [q]) = b.2 + pm_sz t + q.2; omega
    rw [e]
    show pm_sz S + 6 ≤ _
    omega
/-- calls -/
theorem fr_inSI {j : Nat} {me' : pm_Me} {as rest ls' : List pm_V} {c1 c2 : Nat} {K : Int → pm_M → Prop} (hd : decode me.2.1 pc = .ok (.invokestatic j, 3)) (hl : pm_lnk me.2.2.1 j = some me') (hh : me'.2.2.2.2.2.2 = 0) (hn : me'.2.2.2.2.2.1 ≤ st.length ∧ (st.drop me'.2.2.2.2.2.1).length ≤ 4) (ha : (st.take me'.2.2.2.2.2.1).reverse = as) (hr : st.drop me'.2.2.2.2.2.1 = rest) (h20 : 20 ≤ d) (he : pm_ent me'.2.2.2.1 (as) = ls') (hlen : ls'.length = me'.2.2.2.1) (hc : c1 + c2 ≤ c) (hR : pm_Fr sc (d - 1) c1 me' 0 ls' [] M (qI K)) (k : ∀ y M', K y M' → pm_Fr sc d c2 me (pc + 3) ls ((0, y) :: rest) M' Q) : pm_Fr sc d c me pc ls st M Q :=
  fr_cll (c1 := c1) (c2 := c2) (as := as) (rest := rest) (Q1 := qI K) h20 hc (fun S N hS => by
    subst ha; subst hr
    simp only [pm_step, hd, pm_ins, hl, pm_inv, hh, if_true, beq_self_eq_true, Bool.true_or]
    rw [if_pos hn])
    (by rw [he]; exact hlen) (by rw [he]; exact hR) (fun r M' h => by obtain ⟨y, rfl, hk⟩ := h; exact fun z => by cases z) (fun r M' h => by
      obtain ⟨y, rfl, hk⟩ := h
      exact k y M' hk)
theorem fr_inSL {j : Nat} {me' : pm_Me} {as rest ls' : List pm_V} {c1 c2 : Nat} {K : Int → pm_M → Prop} (hd : decode me.2.1 pc = .ok (.invokestatic j, 3)) (hl : pm_lnk me.2.2.1 j = some me') (hh : me'.2.2.2.2.2.2 = 0) (hn : me'.2.2.2.2.2.1 ≤ st.length ∧ (st.drop me'.2.2.2.2.2.1).length ≤ 4) (ha : (st.take me'.2.2.2.2.2.1).reverse = as) (hr : st.drop me'.2.2.2.2.2.1 = rest) (h20 : 20 ≤ d) (he : pm_ent me'.2.2.2.1 (as) = ls') (hlen : ls'.length = me'.2.2.2.1) (hc : c1 + c2 ≤ c) (hR : pm_Fr sc (d - 1) c1 me' 0 ls' [] M (qL K)) (k : ∀ y M', K y M' → pm_Fr sc d c2 me (pc + 3) ls ((1, y) :: rest) M' Q) : pm_Fr sc d c me pc ls st M Q :=
  fr_cll (c1 := c1) (c2 := c2) (as := as) (rest := rest) (Q1 := qL K) h20 hc (fun S N hS => by
    subst ha; subst hr
    simp only [pm_step, hd, pm_ins, hl, pm_inv, hh, if_true, beq_self_eq_true, Bool.true_or]
    rw [if_pos hn])
    (by rw [he]; exact hlen) (by rw [he]; exact hR) (fun r M' h => by obtain ⟨y, rfl, hk⟩ := h; exact fun z => by cases z) (fun r M' h => by
      obtain ⟨y, rfl, hk⟩ := h
      exact k y M' hk)
theorem fr_inSV {j : Nat} {me' : pm_Me} {as rest ls' : List pm_V} {c1 c2 : Nat} {K : pm_M → Prop} (hd : decode me.2.1 pc = .ok (.invokestatic j, 3)) (hl : pm_lnk me.2.2.1 j = some me') (hh : me'.2.2.2.2.2.2 = 0) (hn : me'.2.2.2.2.2.1 ≤ st.length ∧ (st.drop me'.2.2.2.2.2.1).length ≤ 4) (ha : (st.take me'.2.2.2.2.2.1).reverse = as) (hr : st.drop me'.2.2.2.2.2.1 = rest) (h20 : 20 ≤ d) (he : pm_ent me'.2.2.2.1 (as) = ls') (hlen : ls'.length = me'.2.2.2.1) (hc : c1 + c2 ≤ c) (hR : pm_Fr sc (d - 1) c1 me' 0 ls' [] M (qV K)) (k : ∀ M', K M' → pm_Fr sc d c2 me (pc + 3) ls rest M' Q) : pm_Fr sc d c me pc ls st M Q :=
  fr_cll (c1 := c1) (c2 := c2) (as := as) (rest := rest) (Q1 := qV K) h20 hc (fun S N hS => by
    subst ha; subst hr
    simp only [pm_step, hd, pm_ins, hl, pm_inv, hh, if_true, beq_self_eq_true, Bool.true_or]
    rw [if_pos hn])
    (by rw [he]; exact hlen) (by rw [he]; exact hR) (fun r M' h => by rw [h.1]; exact fun z => by cases z) (fun r M' h => by
      obtain ⟨rfl, hk⟩ := h
      exact k M' hk)
theorem fr_inVI {j a n : Nat} {me' : pm_Me} {x : Int} {as rest ls' : List pm_V} {c1 c2 : Nat} {K : Int → pm_M → Prop} (hd : decode me.2.1 pc = .ok (.invokevirtual j, 3)) (hl : pm_lnk me.2.2.1 j = some me') (hh : me'.2.2.2.2.2.2 = 1) (hn : (me'.2.2.2.2.2.1 + 1) ≤ st.length ∧ (st.drop (me'.2.2.2.2.2.1 + 1)).length ≤ 4) (ha : (st.take (me'.2.2.2.2.2.1 + 1)).reverse = (2, x) :: as) (hr : st.drop (me'.2.2.2.2.2.1 + 1) = rest) (hx : x = (a : Int)) (hs : pm_S0[a]? = some (me'.2.2.1, n)) (h13 : me'.2.2.1 < 13) (h20 : 20 ≤ d) (he : pm_ent me'.2.2.2.1 ((2, x) :: as) = ls') (hlen : ls'.length = me'.2.2.2.1) (hc : c1 + c2 ≤ c) (hR : pm_Fr sc (d - 1) c1 me' 0 ls' [] M (qI K)) (k : ∀ y M', K y M' → pm_Fr sc d c2 me (pc + 3) ls ((0, y) :: rest) M' Q) : pm_Fr sc d c me pc ls st M Q :=
  fr_cll (c1 := c1) (c2 := c2) (as := (2, x) :: as) (rest := rest) (Q1 := qI K) h20 hc (fun S N hS => by
    subst hr; subst hx
    simp only [pm_step, hd, pm_ins, hl, pm_inv, hh, if_true, beq_self_eq_true, ha, Int.toNat_natCast, hS.fs hs]
    rw [if_pos hn, if_pos ⟨Int.natCast_nonneg a, h13, by trivial⟩])
    (by rw [he]; exact hlen) (by rw [he]; exact hR) (fun r M' h => by obtain ⟨y, rfl, hk⟩ := h; exact fun z => by cases z) (fun r M' h => by
      obtain ⟨y, rfl, hk⟩ := h
      exact k y M' hk)
theorem fr_inVL {j a n : Nat} {me' : pm_Me} {x : Int} {as rest ls' : List pm_V} {c1 c2 : Nat} {K : Int → pm_M → Prop} (hd : decode me.2.1 pc = .ok (.invokevirtual j, 3)) (hl : pm_lnk me.2.2.1 j = some me') (hh : me'.2.2.2.2.2.2 = 1) (hn : (me'.2.2.2.2.2.1 + 1) ≤ st.length ∧ (st.drop (me'.2.2.2.2.2.1 + 1)).length ≤ 4) (ha : (st.take (me'.2.2.2.2.2.1 + 1)).reverse = (2, x) :: as) (hr : st.drop (me'.2.2.2.2.2.1 + 1) = rest) (hx : x = (a : Int)) (hs : pm_S0[a]? = some (me'.2.2.1, n)) (h13 : me'.2.2.1 < 13) (h20 : 20 ≤ d) (he : pm_ent me'.2.2.2.1 ((2, x) :: as) = ls') (hlen : ls'.length = me'.2.2.2.1) (hc : c1 + c2 ≤ c) (hR : pm_Fr sc (d - 1) c1 me' 0 ls' [] M (qL K)) (k : ∀ y M', K y M' → pm_Fr sc d c2 me (pc + 3) ls ((1, y) :: rest) M' Q) : pm_Fr sc d c me pc ls st M Q :=
  fr_cll (c1 := c1) (c2 := c2) (as := (2, x) :: as) (rest := rest) (Q1 := qL K) h20 hc (fun S N hS => by
    subst hr; subst hx
    simp only [pm_step, hd, pm_ins, hl, pm_inv, hh, if_true, beq_self_eq_true, ha, Int.toNat_natCast, hS.fs hs]
    rw [if_pos hn, if_pos ⟨Int.natCast_nonneg a, h13, by trivial⟩])
    (by rw [he]; exact hlen) (by rw [he]; exact hR) (fun r M' h => by obtain ⟨y, rfl, hk⟩ := h; exact fun z => by cases z) (fun r M' h => by
      obtain ⟨y, rfl, hk⟩ := h
      exact k y M' hk)
theorem fr_inVV {j a n : Nat} {me' : pm_Me} {x : Int} {as rest ls' : List pm_V} {c1 c2 : Nat} {K : pm_M → Prop} (hd : decode me.2.1 pc = .ok (.invokevirtual j, 3)) (hl : pm_lnk me.2.2.1 j = some me') (hh : me'.2.2.2.2.2.2 = 1) (hn : (me'.2.2.2.2.2.1 + 1) ≤ st.length ∧ (st.drop (me'.2.2.2.2.2.1 + 1)).length ≤ 4) (ha : (st.take (me'.2.2.2.2.2.1 + 1)).reverse = (2, x) :: as) (hr : st.drop (me'.2.2.2.2.2.1 + 1) = rest) (hx : x = (a : Int)) (hs : pm_S0[a]? = some (me'.2.2.1, n)) (h13 : me'.2.2.1 < 13) (h20 : 20 ≤ d) (he : pm_ent me'.2.2.2.1 ((2, x) :: as) = ls') (hlen : ls'.length = me'.2.2.2.1) (hc : c1 + c2 ≤ c) (hR : pm_Fr sc (d - 1) c1 me' 0 ls' [] M (qV K)) (k : ∀ M', K M' → pm_Fr sc d c2 me (pc + 3) ls rest M' Q) : pm_Fr sc d c me pc ls st M Q :=
  fr_cll (c1 := c1) (c2 := c2) (as := (2, x) :: as) (rest := rest) (Q1 := qV K) h20 hc (fun S N hS => by
    subst hr; subst hx
    simp only [pm_step, hd, pm_ins, hl, pm_inv, hh, if_true, beq_self_eq_true, ha, Int.toNat_natCast, hS.fs hs]
    rw [if_pos hn, if_pos ⟨Int.natCast_nonneg a, h13, by trivial⟩])
    (by rw [he]; exact hlen) (by rw [he]; exact hR) (fun r M' h => by rw [h.1]; exact fun z => by cases z) (fun r M' h => by
      obtain ⟨rfl, hk⟩ := h
      exact k M' hk)
theorem fr_inTI {j : Nat} {me' : pm_Me} {x : Int} {as rest ls' : List pm_V} {c1 c2 : Nat} {K : Int → pm_M → Prop} (hd : decode me.2.1 pc = .ok (.invokevirtual j, 3)) (hl : pm_lnk me.2.2.1 j = some me') (hh : me'.2.2.2.2.2.2 = 1) (hn : (me'.2.2.2.2.2.1 + 1) ≤ st.length ∧ (st.drop (me'.2.2.2.2.2.1 + 1)).length ≤ 4) (ha : (st.take (me'.2.2.2.2.2.1 + 1)).reverse = (3, x) :: as) (hr : st.drop (me'.2.2.2.2.2.1 + 1) = rest) (hx : 0 ≤ x ∧ x < 10) (h17 : me'.2.2.1 = 17) (h20 : 20 ≤ d) (he : pm_ent me'.2.2.2.1 ((3, x) :: as) = ls') (hlen : ls'.length = me'.2.2.2.1) (hc : c1 + c2 ≤ c) (hR : pm_Fr sc (d - 1) c1 me' 0 ls' [] M (qI K)) (k : ∀ y M', K y M' → pm_Fr sc d c2 me (pc + 3) ls ((0, y) :: rest) M' Q) : pm_Fr sc d c me pc ls st M Q :=
  fr_cll (c1 := c1) (c2 := c2) (as := (3, x) :: as) (rest := rest) (Q1 := qI K) h20 hc (fun S N hS => by
    subst hr
    simp only [pm_step, hd, pm_ins, hl, pm_inv, hh, if_true, beq_self_eq_true, ha]
    rw [if_pos hn, if_pos ⟨hx.1, hx.2, h17, by trivial⟩])
    (by rw [he]; exact hlen) (by rw [he]; exact hR) (fun r M' h => by obtain ⟨y, rfl, hk⟩ := h; exact fun z => by cases z) (fun r M' h => by
      obtain ⟨y, rfl, hk⟩ := h
      exact k y M' hk)
theorem fr_max {j : Nat} {me' : pm_Me} {a b : Int} (hd : decode me.2.1 pc = .ok (.invokestatic j, 3)) (hl : pm_lnk me.2.2.1 j = some me') (hh : me'.2.2.2.2.2.2 = 13) (h4 : st.length ≤ 4) (k : pm_Fr sc d c me (pc + 3) ls ((0, if a < b then b else a) :: st) M Q) : pm_Fr sc d c me pc ls ((0, b) :: (0, a) :: st) M Q :=
  fr_stq (fun S N hS hN hL => by
    simp only [pm_step, hd, pm_ins, hl, pm_inv, hh, if_true, pm_nx]
    rw [if_pos (by trivial), if_pos h4]) k
theorem fr_min {j : Nat} {me' : pm_Me} {a b : Int} (hd : decode me.2.1 pc = .ok (.invokestatic j, 3)) (hl : pm_lnk me.2.2.1 j = some me') (hh : me'.2.2.2.2.2.2 = 14) (h4 : st.length ≤ 4) (k : pm_Fr sc d c me (pc + 3) ls ((0, if b < a then b else a) :: st) M Q) : pm_Fr sc d c me pc ls ((0, b) :: (0, a) :: st) M Q :=
  fr_stq (fun S N hS hN hL => by
    simp only [pm_step, hd, pm_ins, hl, pm_inv, hh, if_true, pm_nx]
    rw [if_pos (by trivial), if_pos h4]) k
theorem fr_abs {j : Nat} {me' : pm_Me} {a : Int} (hd : decode me.2.1 pc = .ok (.invokestatic j, 3)) (hl : pm_lnk me.2.2.1 j = some me') (hh : me'.2.2.2.2.2.2 = 15) (h4 : st.length ≤ 4) (k : pm_Fr sc d c me (pc + 3) ls ((0, if 0 ≤ a then a else w32 (0 - a)) :: st) M Q) : pm_Fr sc d c me pc ls ((0, a) :: st) M Q :=
  fr_stq (fun S N hS hN hL => by
    simp only [pm_step, hd, pm_ins, hl, pm_inv, hh, if_true, pm_nx]
    rw [if_pos (by trivial), if_pos h4]) k
theorem fr_cpy {j sa sb la lb : Nat} {me' : pm_Me} {n dp x sp y : Int} (hd : decode me.2.1 pc = .ok (.invokestatic j, 3)) (hl : pm_lnk me.2.2.1 j = some me') (hh : me'.2.2.2.2.2.2 = 7) (h4 : st.length ≤ 4) (hx : x = (sb : Int)) (hy : y = (sa : Int)) (hsb : pm_S0[sb]? = some (14, lb)) (hsa : pm_S0[sa]? = some (14, la)) (hr : pm_nr sb = true) (hb : 0 ≤ n ∧ 0 ≤ dp ∧ 0 ≤ sp ∧ sp + n ≤ (la : Int) ∧ dp + n ≤ (lb : Int)) (k : pm_Fr sc d c me (pc + 3) ls st (pm_nw M sb (fun j => if dp.toNat ≤ j ∧ j < dp.toNat + n.toNat then M sa (sp.toNat + (j - dp.toNat)) else M sb j)) Q) : pm_Fr sc d c me pc ls ((0, n) :: (0, dp) :: (2, x) :: (0, sp) :: (2, y) :: st) M Q :=
  fr_stp (fun hl => hl.nw hr) (fun S N hS hN => ⟨pm_nw N sb (fun j => if dp.toNat ≤ j ∧ j < dp.toNat + n.toNat then N sa (sp.toNat + (j - dp.toNat)) else N sb j), by
    subst hx; subst hy
    simp only [pm_step, hd, pm_ins, hl, pm_inv, hh, if_true, pm_nx, Int.toNat_natCast, hS.at hsa, hS.at hsb]
    rw [if_pos (by trivial), if_pos ⟨Int.natCast_nonneg _, Int.natCast_nonneg _, hb.1, hb.2.1, hb.2.2.1, h4⟩, if_pos ⟨hb.2.2.2.1, hb.2.2.2.2⟩], by
    intro b hb'
    by_cases e : b = sb
    · subst e
      rw [pm_nw_eq, pm_nw_eq, hN _ (pm_S0lt hsa), hN _ (pm_S0lt hsb)]
    · rw [pm_nw_ne e, pm_nw_ne e]
      exact hN b hb'⟩) k
/-- a guarded call of the class's node or test -/
theorem fr_grd {j x o : Nat} {me' mm : pm_Me} {xv ov p q : Int} {n : Nat} {c1 c2 : Nat} {K : Int → Int → pm_M → Prop} (hd : decode me.2.1 pc = .ok (.invokestatic j, 3)) (hl : pm_lnk me.2.2.1 j = some me') (hh : (me'.2.2.2.2.2.2 = 8 ∧ mm = mX11_node) ∨ (me'.2.2.2.2.2.2 = 9 ∧ mm = mX11_test)) (hx : xv = (x : Int)) (ho : ov = (o : Int)) (hsx : pm_S0[x]? = some (11, n)) (hso : pm_S0[o]? = some (15, 1)) (hr : pm_nr o = true) (h4 : st.length ≤ 4) (h20 : 20 ≤ d) (hc : c1 + c2 ≤ c) (hR : pm_Fr sc (d - 2) c1 mm 0 [(2, xv), (0, p), (0, q)] [] M (qT K)) (k0 : ∀ v M', K 0 v M' → pm_Fr sc d c2 me (pc + 3) ls ((0, 0) :: st) (upI M' o 0 v) Q) (k1 : ∀ M', K 1 0 M' → pm_Fr sc d c2 me (pc + 3) ls ((0, 1) :: st) M' Q) : pm_Fr sc d c me pc ls ((2, ov) :: (0, q) :: (0, p) :: (2, xv) :: st) M Q := by
  intro hl' S N hS hN
  subst hx; subst ho
  have hstep : pm_step sc me pc ls ((2, (o : Int)) :: (0, q) :: (0, p) :: (2, (x : Int)) :: st) S N = some (.inr (.inl (mm, [(2, (x : Int)), (0, p), (0, q)], st, some o))) := by
    have hso' := hS.at hso
    have hsx' := hS.fs hsx
    rcases hh with ⟨hh, rfl⟩ | ⟨hh, rfl⟩
    all_goals
      simp only [pm_step, hd, pm_ins, hl, pm_inv, hh, Int.toNat_natCast]
      rw [if_pos (by trivial), if_pos (by trivial), if_pos ⟨Int.natCast_nonneg _, Int.natCast_nonneg _, hso', hsx', h4⟩]
  have hm : mm.2.2.2.1 = 3 := by rcases hh with ⟨-, rfl⟩ | ⟨-, rfl⟩ <;> rfl
  have hent : pm_ent mm.2.2.2.1 [(2, (x : Int)), (0, p), (0, q)] = [(2, (x : Int)), (0, p), (0, q)] := by rw [hm]; rfl
  obtain ⟨n1, r1, S1, N1, M1, e1, e2, e3, e4, e5, e6, hF⟩ := hR hl' S N hS hN
  have hnd : ¬ (d < 20 ∨ (pm_ent mm.2.2.2.1 [(2, (x : Int)), (0, p), (0, q)]).length ≠ mm.2.2.2.1) := by
    rintro (h1 | h1)
    · omega
    · rw [hent, hm] at h1; exact h1 rfl
  rcases hF with ⟨v, rfl, hK⟩ | ⟨v, rfl, hK⟩
  · obtain ⟨n2, r2, S2, N2, M2, f1, f2, f3, f4, f5, f6⟩ := k0 v M1 hK (e6.up (pm_nr_nf hr _)) S1 _ e2 (e3.up o 0 v)
    refine ⟨(n1 + n2) + 1, r2, S2, N2, M2, ?_, f2, f3, by omega, by omega, f6⟩
    unfold pm_X
    rw [hstep]
    simp only []
    rw [if_neg hnd]
    have g1 := pm_X_fuel _ _ _ _ _ _ _ _ _ e1 n2
    have g2 := pm_X_fuel _ _ _ _ _ _ _ _ _ f1 n1
    rw [Nat.add_comm] at g2
    simp only [Option.isSome_some, if_true, hent, g1]
    exact g2
  · obtain ⟨n2, r2, S2, N2, M2, f1, f2, f3, f4, f5, f6⟩ := k1 M1 hK e6 S1 _ e2 e3
    refine ⟨(n1 + n2) + 1, r2, S2, N2, M2, ?_, f2, f3, by omega, by omega, f6⟩
    unfold pm_X
    rw [hstep]
    simp only []
    rw [if_neg hnd]
    have g1 := pm_X_fuel _ _ _ _ _ _ _ _ _ e1 n2
    have g2 := pm_X_fuel _ _ _ _ _ _ _ _ _ f1 n1
    rw [Nat.add_comm] at g2
    simp only [Option.isSome_some, if_true, hent, g1]
    exact g2
theorem pm_isA_nat (n : Nat) : pm_isA (2, (n : Int)) = true := by
  unfold pm_isA
  rw [decide_eq_true (Int.natCast_nonneg n)]
  rfl
theorem pm_t0 : (0 : Nat) ≠ 1 := by decide
theorem pm_t2 : (2 : Nat) ≠ 1 := by decide
theorem pm_t9 : (9 : Nat) ≠ 1 := by decide
theorem pm_zc (c : Nat) : 0 + c ≤ c := Nat.le_of_eq (Nat.zero_add c)
theorem pm_rowS {a c n m : Nat} (h : ∀ k, k < n → pm_S0[a + 1 + k]? = some (c, m)) {i : Int} (hi : 0 ≤ i ∧ i < (n : Int)) : pm_S0[a + 1 + i.toNat]? = some (c, m) := h _ (by omega)
theorem pm_rowN {a n : Nat} (h : ∀ k, k < n → pm_nr (a + 1 + k) = true) {i : Int} (hi : 0 ≤ i ∧ i < (n : Int)) : pm_nr (a + 1 + i.toNat) = true := h _ (by omega)
end PMF

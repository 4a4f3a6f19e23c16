/-! what a step of each kind tells -/
section PMT
variable {sc : Nat × (Nat → Int)} {me : pm_Me} {d pc len : Nat} {ls st t : List pm_V} {S : pm_S} {M : pm_M} {q : Nat × List pm_V × List pm_V × pm_S × pm_M}
theorem pm_mo (h : q.2.2.2.1 = S) : S.length ≤ q.2.2.2.1.length ∧ pm_sz S ≤ pm_sz q.2.2.2.1 := by rw [h]; exact ⟨Nat.le_refl _, Nat.le_refl _⟩
theorem pm_moA {X : pm_S} (h : q.2.2.2.1 = S ++ X) : S.length ≤ q.2.2.2.1.length ∧ pm_sz S ≤ pm_sz q.2.2.2.1 := by rw [h, pm_sz_app, List.length_append]; exact ⟨Nat.le_add_right _ _, Nat.le_add_right _ _⟩
set_option maxHeartbeats 4000000 in
theorem pm_ins_mono {i : Instr} (h : pm_ins sc me pc ls st S M len i = some (.inl q)) : S.length ≤ q.2.2.2.1.length ∧ pm_sz S ≤ pm_sz q.2.2.2.1 := by
  cases i with
  | newarray ty =>
    simp only [pm_ins] at h
    split at h
    · split at h
      · cases ty <;> simp only [] at h <;> first | exact pm_moA (by rw [pm_nxE h]) | cases h
      · cases h
    · cases h
  | multianewarray j k =>
    simp only [pm_ins] at h
    split at h
    · split at h
      · exact pm_moA (by rw [pm_nxE h])
      · cases h
    · cases h
  | new j =>
    simp only [pm_ins] at h
    split at h
    · split at h
      · exact pm_moA (by rw [pm_nxE h])
      · split at h <;> cases h
    · cases h
  | invokevirtual j =>
    simp only [pm_ins] at h
    split at h
    · split at h
      · rcases (pm_invS h).2 with ⟨-, a, t, -, -, -, rfl⟩ | ⟨-, n, dp, b, sp, a, t, la, lb, -, -, -, -, -, -, rfl⟩ | ⟨-, b, a, t, -, -, rfl⟩ | ⟨-, b, a, t, -, -, rfl⟩ | ⟨-, a, t, -, -, rfl⟩ <;> exact pm_mo rfl
      · cases h
    · cases h
  | invokestatic j =>
    simp only [pm_ins] at h
    split at h
    · split at h
      · rcases (pm_invS h).2 with ⟨-, a, t, -, -, -, rfl⟩ | ⟨-, n, dp, b, sp, a, t, la, lb, -, -, -, -, -, -, rfl⟩ | ⟨-, b, a, t, -, -, rfl⟩ | ⟨-, b, a, t, -, -, rfl⟩ | ⟨-, a, t, -, -, rfl⟩ <;> exact pm_mo rfl
      · cases h
    · cases h
  | invokespecial j =>
    simp only [pm_ins] at h
    split at h
    · split at h
      · rcases (pm_invS h).2 with ⟨-, a, t, -, -, -, rfl⟩ | ⟨-, n, dp, b, sp, a, t, la, lb, -, -, -, -, -, -, rfl⟩ | ⟨-, b, a, t, -, -, rfl⟩ | ⟨-, b, a, t, -, -, rfl⟩ | ⟨-, a, t, -, -, rfl⟩ <;> exact pm_mo rfl
      · cases h
    · cases h
  | _ =>
    simp only [pm_ins, pm_bin, pm_una, pm_biL, pm_shL, pm_jmp, pm_ld, pm_sto, pm_arr] at h
    first
      | (cases h; done)
      | (repeat' split at h) <;> first | (cases h; done) | exact pm_mo (by rw [pm_nxE h])
/-- an end -/
def pm_Tm (me : pm_Me) (pcT : Nat) (stT : List pm_V) (ST : pm_S) (r : Option pm_V) (S' : pm_S) : Prop :=
  (S' = ST ∧ ((∃ x, decode me.2.1 pcT = .ok (.ireturn, 1) ∧ stT = [(0, x)] ∧ r = some (0, x) ∧ (me.2.2.2.2.1 = 0 ∨ (me.2.2.2.2.1 = 5 ∧ (x = 0 ∨ x = 1)) ∨ (me.2.2.2.2.1 = 7 ∧ 0 ≤ x ∧ x < 65536) ∨ (me.2.2.2.2.1 = 8 ∧ -128 ≤ x ∧ x < 128))) ∨ (∃ x, decode me.2.1 pcT = .ok (.lreturn, 1) ∧ stT = [(1, x)] ∧ r = some (1, x) ∧ me.2.2.2.2.1 = 1) ∨ (decode me.2.1 pcT = .ok (.return_, 1) ∧ stT = [] ∧ r = none ∧ me.2.2.2.2.1 = 6))) ∨
  (S' = ST ++ [(18, 6)] ∧ ∃ j, decode me.2.1 pcT = .ok (.new j, 3) ∧ (me.2.2.1, j) ∈ pm_exc ∧ stT = [] ∧ r = some (7, 0) ∧ pm_thr me pcT = true)
theorem pm_invN {hw : Nat → Bool} {me' : pm_Me} {r : Option pm_V} (h : pm_inv hw me' st S pc ls M = some (.inr (.inr r))) : False := by
  unfold pm_inv at h
  split at h
  · split at h
    · split at h <;> cases h
    · split at h
      · split at h <;> cases h
      · cases h
    · split at h
      · split at h
        · split at h
          · split at h <;> cases h
          · cases h
        · cases h
      · cases h
    · split at h
      · split at h <;> cases h
      · cases h
    · split at h
      · split at h <;> cases h
      · cases h
    · split at h
      · split at h <;> cases h
      · cases h
    · split at h
      · split at h <;> cases h
      · cases h
    · split at h
      · split at h <;> cases h
      · cases h
    · split at h
      · split at h
        · split at h <;> cases h
        · split at h <;> cases h
        · cases h
      · cases h
  · cases h
set_option maxHeartbeats 4000000 in
theorem pm_insD {i : Instr} {r : Option pm_V} (hdg : decode me.2.1 pc = .ok (i, len)) (h : pm_ins sc me pc ls st S M len i = some (.inr (.inr r))) : pm_Tm me pc st S r (if r = some (7, 0) then S ++ [(18, 6)] else S) := by
  cases i with
  | ireturn =>
    simp only [pm_ins] at h
    split at h
    · split at h
      · rename_i g
        obtain ⟨rfl, g2⟩ := g
        cases h
        refine Or.inl ⟨?_, Or.inl ⟨_, hdg, rfl, rfl, g2⟩⟩
        rw [if_neg (fun q => by cases q)]
      · cases h
    · cases h
  | lreturn =>
    simp only [pm_ins] at h
    split at h
    · split at h
      · rename_i g
        obtain ⟨rfl, g2⟩ := g
        cases h
        refine Or.inl ⟨?_, Or.inr (Or.inl ⟨_, hdg, rfl, rfl, g2⟩)⟩
        rw [if_neg (fun q => by cases q)]
      · cases h
    · cases h
  | return_ =>
    simp only [pm_ins] at h
    split at h
    · rename_i g
      obtain ⟨rfl, g2, g3⟩ := g
      cases h
      exact Or.inl ⟨by rw [if_neg (fun q => by cases q)], Or.inr (Or.inr ⟨hdg, g2, rfl, g3⟩)⟩
    · cases h
  | new j =>
    simp only [pm_ins] at h
    split at h
    · rename_i g
      subst g
      split at h
      · cases h
      · split at h
        · rename_i g2
          cases h
          exact Or.inr ⟨by rw [if_pos rfl], j, hdg, g2.1, g2.2.1, rfl, g2.2.2⟩
        · cases h
    · cases h
  | invokevirtual j =>
    simp only [pm_ins] at h
    split at h
    · split at h
      · exact (pm_invN h).elim
      · cases h
    · cases h
  | invokestatic j =>
    simp only [pm_ins] at h
    split at h
    · split at h
      · exact (pm_invN h).elim
      · cases h
    · cases h
  | invokespecial j =>
    simp only [pm_ins] at h
    split at h
    · split at h
      · exact (pm_invN h).elim
      · cases h
    · cases h
  | newarray ty =>
    simp only [pm_ins] at h
    split at h
    · split at h
      · cases ty <;> simp only [] at h <;> cases h
      · cases h
    · cases h
  | _ =>
    simp only [pm_ins, pm_bin, pm_una, pm_biL, pm_shL, pm_jmp, pm_ld, pm_sto, pm_arr, pm_nx] at h
    first
      | (cases h; done)
      | (repeat' split at h) <;> (cases h; done)
/-- a call: which, on what -/
def pm_Cl (hw : Nat → Bool) (me' : pm_Me) (st : List pm_V) (S : pm_S) (q : pm_Me × List pm_V × List pm_V × Option Nat) : Prop :=
  hw me'.2.2.2.2.2.2 = true ∧ q.2.2.1.length ≤ 4 ∧
  ((me'.2.2.2.2.2.2 = 0 ∧ q.1 = me' ∧ st = q.2.1.reverse ++ q.2.2.1 ∧ q.2.1.length = me'.2.2.2.2.2.1 ∧ q.2.2.2 = none) ∨
   ((me'.2.2.2.2.2.2 ≠ 0 ∧ me'.2.2.2.2.2.2 ≠ 3 ∧ me'.2.2.2.2.2.2 ≠ 7 ∧ me'.2.2.2.2.2.2 ≠ 13 ∧ me'.2.2.2.2.2.2 ≠ 14 ∧ me'.2.2.2.2.2.2 ≠ 15 ∧ me'.2.2.2.2.2.2 ≠ 8 ∧ me'.2.2.2.2.2.2 ≠ 9) ∧ q.1 = me' ∧ q.2.2.2 = none ∧ ∃ a as, q.2.1 = (2, a) :: as ∧ st = as.reverse ++ (2, a) :: q.2.2.1 ∧ as.length = me'.2.2.2.2.2.1 ∧ 0 ≤ a ∧ me'.2.2.1 < 13 ∧ (S[a.toNat]?).map Prod.fst = some me'.2.2.1) ∨
   (me'.2.2.2.2.2.2 = 1 ∧ me'.2.2.1 = 17 ∧ q.1 = me' ∧ q.2.2.2 = none ∧ ∃ a as, q.2.1 = (3, a) :: as ∧ st = as.reverse ++ (3, a) :: q.2.2.1 ∧ as.length = me'.2.2.2.2.2.1 ∧ 0 ≤ a ∧ a < 10) ∨
   (((me'.2.2.2.2.2.2 = 8 ∧ q.1 = mX11_node) ∨ (me'.2.2.2.2.2.2 = 9 ∧ q.1 = mX11_test)) ∧ ∃ o b p x, st = (2, o) :: (0, b) :: (0, p) :: (2, x) :: q.2.2.1 ∧ q.2.1 = [(2, x), (0, p), (0, b)] ∧ q.2.2.2 = some o.toNat ∧ 0 ≤ o ∧ 0 ≤ x ∧ S[o.toNat]? = some (15, 1) ∧ (S[x.toNat]?).map Prod.fst = some 11))
theorem pm_take {n : Nat} {st as : List pm_V} (h : (st.take n).reverse = as) (hn : n ≤ st.length) : st = as.reverse ++ st.drop n ∧ as.length = n := by
  subst h
  rw [List.reverse_reverse, List.take_append_drop, List.length_reverse, List.length_take]
  exact ⟨rfl, by omega⟩
theorem pm_invC {hw : Nat → Bool} {me' : pm_Me} {q : pm_Me × List pm_V × List pm_V × Option Nat} (h : pm_inv hw me' st S pc ls M = some (.inr (.inl q))) : pm_Cl hw me' st S q := by
  unfold pm_inv at h
  split at h
  · rename_i hhw
    split at h
    · rename_i e
      split at h
      · rename_i g
        cases h
        obtain ⟨h1, h2⟩ := pm_take (st := st) rfl g.1
        exact ⟨hhw, g.2, Or.inl ⟨e, rfl, h1, h2, rfl⟩⟩
      · cases h
    · split at h
      · split at h <;> cases h
      · cases h
    · split at h
      · split at h
        · split at h
          · split at h <;> cases h
          · cases h
        · cases h
      · cases h
    · split at h
      · split at h <;> cases h
      · cases h
    · split at h
      · split at h <;> cases h
      · cases h
    · split at h
      · split at h <;> cases h
      · cases h
    · rename_i e
      split at h
      · split at h
        · rename_i g
          cases h
          exact ⟨hhw, g.2.2.2.2, Or.inr (Or.inr (Or.inr ⟨Or.inl ⟨e, rfl⟩, _, _, _, _, rfl, rfl, rfl, g.1, g.2.1, g.2.2.1, g.2.2.2.1⟩))⟩
        · cases h
      · cases h
    · rename_i e
      split at h
      · split at h
        · rename_i g
          cases h
          exact ⟨hhw, g.2.2.2.2, Or.inr (Or.inr (Or.inr ⟨Or.inr ⟨e, rfl⟩, _, _, _, _, rfl, rfl, rfl, g.1, g.2.1, g.2.2.1, g.2.2.2.1⟩))⟩
        · cases h
      · cases h
    · rename_i n0 n3 n7 n13 n14 n15 n8 n9
      split at h
      · rename_i g
        split at h
        · rename_i a as ha
          obtain ⟨h1, h2⟩ := pm_take ha g.1
          split at h
          · rename_i g2
            cases h
            refine ⟨hhw, g.2, Or.inr (Or.inl ⟨⟨n0, n3, n7, n13, n14, n15, n8, n9⟩, rfl, rfl, a, as, rfl, ?_, ?_, g2.1, g2.2.1, g2.2.2⟩)⟩
            · rw [List.reverse_cons, List.append_assoc] at h1
              exact h1
            · simpa using h2
          · cases h
        · rename_i a as ha
          obtain ⟨h1, h2⟩ := pm_take ha g.1
          split at h
          · rename_i g2
            cases h
            refine ⟨hhw, g.2, Or.inr (Or.inr (Or.inl ⟨g2.2.2.2, g2.2.2.1, rfl, rfl, a, as, rfl, ?_, ?_, g2.1, g2.2.1⟩))⟩
            · rw [List.reverse_cons, List.append_assoc] at h1
              exact h1
            · simpa using h2
          · cases h
        · cases h
      · cases h
  · cases h
set_option maxHeartbeats 4000000 in
theorem pm_insC {i : Instr} {q : pm_Me × List pm_V × List pm_V × Option Nat} (hdg : decode me.2.1 pc = .ok (i, len)) (h : pm_ins sc me pc ls st S M len i = some (.inr (.inl q))) : ∃ j me', pm_lnk me.2.2.1 j = some me' ∧
    ((decode me.2.1 pc = .ok (.invokevirtual j, 3) ∧ pm_Cl (fun h => h == 1) me' st S q) ∨ (decode me.2.1 pc = .ok (.invokestatic j, 3) ∧ pm_Cl (fun h => h == 0 || h == 7 || h == 8 || h == 9 || h == 13 || h == 14 || h == 15) me' st S q) ∨ (decode me.2.1 pc = .ok (.invokespecial j, 3) ∧ pm_Cl (fun h => h == 2 || h == 12 || h == 3) me' st S q)) := by
  cases i with
  | invokevirtual j =>
    simp only [pm_ins] at h
    split at h
    · rename_i g
      subst g
      split at h
      · exact ⟨j, _, ‹_›, Or.inl ⟨hdg, pm_invC h⟩⟩
      · cases h
    · cases h
  | invokestatic j =>
    simp only [pm_ins] at h
    split at h
    · rename_i g
      subst g
      split at h
      · exact ⟨j, _, ‹_›, Or.inr (Or.inl ⟨hdg, pm_invC h⟩)⟩
      · cases h
    · cases h
  | invokespecial j =>
    simp only [pm_ins] at h
    split at h
    · rename_i g
      subst g
      split at h
      · exact ⟨j, _, ‹_›, Or.inr (Or.inr ⟨hdg, pm_invC h⟩)⟩
      · cases h
    · cases h
  | newarray ty =>
    simp only [pm_ins] at h
    split at h
    · split at h
      · cases ty <;> simp only [] at h <;> cases h
      · cases h
    · cases h
  | _ =>
    simp only [pm_ins, pm_bin, pm_una, pm_biL, pm_shL, pm_jmp, pm_ld, pm_sto, pm_arr, pm_nx] at h
    first
      | (cases h; done)
      | (repeat' split at h) <;> (cases h; done)
theorem pm_X_mono : ∀ (n d : Nat) (me : pm_Me) (pc : Nat) (ls st : List pm_V) (S : pm_S) (M : pm_M) (r : Option pm_V) (S' : pm_S) (M' : pm_M), pm_X sc n d me pc ls st S M = some (r, S', M') → S.length ≤ S'.length ∧ pm_sz S ≤ pm_sz S' := by
  intro n
  induction n with
  | zero => intro d me pc ls st S M r S' M' h; cases h
  | succ n ih =>
    intro d me pc ls st S M r S' M' h
    unfold pm_X at h
    split at h
    · cases h
    · rename_i q hq
      have h1 : S.length ≤ q.2.2.2.1.length ∧ pm_sz S ≤ pm_sz q.2.2.2.1 := by
        unfold pm_step at hq
        split at hq
        · exact pm_ins_mono hq
        · cases hq
      have h2 := ih _ _ _ _ _ _ _ _ _ _ h
      omega
    · cases h
      rw [pm_sz_app, List.length_append]
      exact ⟨Nat.le_add_right _ _, Nat.le_add_right _ _⟩
    · cases h
      exact ⟨Nat.le_refl _, Nat.le_refl _⟩
    · split at h
      · cases h
      · split at h
        · cases h
        · rename_i r1 S1 M1 hX
          have h1 := ih _ _ _ _ _ _ _ _ _ _ hX
          split at h
          · split at h
            · cases h
            · have h2 := ih _ _ _ _ _ _ _ _ _ _ h
              omega
          · split at h
            · have h2 := ih _ _ _ _ _ _ _ _ _ _ h
              omega
            · have h2 := ih _ _ _ _ _ _ _ _ _ _ h
              omega
            · cases h
end PMT

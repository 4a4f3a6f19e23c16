/-! the whole run -/
section PMX
variable {E : pm_E} {D : va_G} {cs : Nat → ClassId} {sc : Nat × (Nat → Int)} {l : Launch}
theorem pm_sound (hflags : l.stackTraces = false) : ∀ n : Nat, pm_Sn E D cs sc l n := by
  intro n
  induction n with
  | zero =>
    intro d me pc ls st S M r S' M' h
    cases h
  | succ n ih =>
    intro d me pc ls st S M r S' M' h p e R s m args below meth c H locs Ls cells slots Q C Y hrc hrs kT
    have hmono := pm_X_mono (n + 1) d me pc ls st S M r S' M' h
    unfold pm_X at h
    split at h
    · cases h
    · rename_i q hq
      have hm1 : S.length ≤ q.2.2.2.1.length ∧ pm_sz S ≤ pm_sz q.2.2.2.1 := by
        unfold pm_step at hq
        split at hq
        · exact pm_ins_mono hq
        · cases hq
      have hm2 := pm_X_mono _ _ _ _ _ _ _ _ _ _ _ h
      refine pm_stepS C hq Y (by omega) (by omega) ?_
      intro H' locs' Ls' Y'
      refine ih d me q.1 q.2.1 q.2.2.1 q.2.2.2.1 q.2.2.2.2 r S' M' h p e R s m args below meth c H' locs' Ls' _ _ Q C Y' (by omega) (by omega) ?_
      intro pcT ST lsT stT H2 locs2 Ls2 hT h1 h2 Y2
      have h3 := kT pcT ST lsT stT H2 locs2 Ls2 hT (by omega) (by omega) Y2
      rw [show cells + (q.2.2.2.1.length - S.length) + (ST.length - q.2.2.2.1.length) = cells + (ST.length - S.length) by omega, show slots + (pm_sz q.2.2.2.1 - pm_sz S) + (pm_sz ST - pm_sz q.2.2.2.1) = slots + (pm_sz ST - pm_sz S) by omega]
      exact h3
    · rename_i x hq
      have hT : pm_Tm me pc st S (some (7, x)) (if (some (7, x) : Option pm_V) = some (7, 0) then S ++ [(18, 6)] else S) := by
        unfold pm_step at hq
        split at hq
        · exact pm_insD ‹_› hq
        · cases hq
      cases h
      have hx : x = 0 := by
        rcases hT with ⟨-, ⟨y, -, -, h2, -⟩ | ⟨y, -, -, h2, -⟩ | ⟨-, -, h2, -⟩⟩ | ⟨-, j, -, -, -, h2, -⟩
        · cases h2
        · cases h2
        · cases h2
        · cases h2
          rfl
      subst hx
      rw [if_pos rfl] at hT
      have h3 := kT pc S ls st H locs Ls hT (Nat.le_refl _) (Nat.le_refl _) Y
      rw [Nat.sub_self, Nat.sub_self] at h3
      exact h3
    · rename_i r0 hr0 hq
      have hT : pm_Tm me pc st S r0 (if r0 = some (7, 0) then S ++ [(18, 6)] else S) := by
        unfold pm_step at hq
        split at hq
        · exact pm_insD ‹_› hq
        · cases hq
      cases h
      rw [if_neg (fun q => hr0 0 (by rw [q]))] at hT
      have h3 := kT pc S ls st H locs Ls hT (Nat.le_refl _) (Nat.le_refl _) Y
      rw [Nat.sub_self, Nat.sub_self] at h3
      exact h3
    · rename_i q hq
      split at h
      · cases h
      · rename_i hd
        have hd20 : 20 ≤ d := by omega
        have hlen : (pm_ent q.1.2.2.2.1 q.2.1).length = q.1.2.2.2.1 := by
          by_cases e : (pm_ent q.1.2.2.2.1 q.2.1).length = q.1.2.2.2.1
          · exact e
          · exact absurd (Or.inr e) hd
        split at h
        · cases h
        · rename_i r1 S1 M1 hX
          have hm1 := pm_X_mono _ _ _ _ _ _ _ _ _ _ _ hX
          obtain ⟨j, me', hl, hc⟩ : ∃ j me', pm_lnk me.2.2.1 j = some me' ∧ ((decode me.2.1 pc = .ok (.invokevirtual j, 3) ∧ pm_Cl (fun h => h == 1) me' st S q) ∨ (decode me.2.1 pc = .ok (.invokestatic j, 3) ∧ pm_Cl (fun h => h == 0 || h == 7 || h == 8 || h == 9 || h == 13 || h == 14 || h == 15) me' st S q) ∨ (decode me.2.1 pc = .ok (.invokespecial j, 3) ∧ pm_Cl (fun h => h == 2 || h == 12 || h == 3) me' st S q)) := by
            unfold pm_step at hq
            split at hq
            · exact pm_insC ‹_› hq
            · cases hq
          obtain ⟨qm, qa, qr, qo⟩ := q
          split at h
          · rename_i hnone
            have hnone : qo = none := hnone
            subst hnone
            split at h
            · cases h
            · rename_i h7
              have hm2 := pm_X_mono _ _ _ _ _ _ _ _ _ _ _ h
              have k : pm_ck2 E D cs p l e R s m args below meth c me Q cells slots S pc ls qr r1 S1 M1 := by
                intro H' locs' Ls' Y'
                refine ih d me (pc + 3) ls (r1.toList ++ qr) S1 M1 r S' M' h p e R s m args below meth c H' locs' Ls' _ _ Q C Y' (by omega) (by omega) ?_
                intro pcT ST lsT stT H2 locs2 Ls2 hT h1 h2 Y2
                have h3 := kT pcT ST lsT stT H2 locs2 Ls2 hT (by omega) (by omega) Y2
                rw [show cells + (S1.length - S.length) + (ST.length - S1.length) = cells + (ST.length - S.length) by omega, show slots + (pm_sz S1 - pm_sz S) + (pm_sz ST - pm_sz S1) = slots + (pm_sz ST - pm_sz S) by omega]
                exact h3
              have hX : pm_X sc n (d - 1) qm 0 (pm_ent qm.2.2.2.1 qa) [] S M = some (r1, S1, M1) := hX
              have hrc1 : cells + (S1.length - S.length) ≤ R.cells := by omega
              have hrs1 : slots + (pm_sz S1 - pm_sz S) ≤ R.slots := by omega
              rcases hc with ⟨hdg, hw, h4, hc⟩ | ⟨hdg, hw, h4, hc⟩ | ⟨hdg, hw, h4, hc⟩
              · have hh : me'.2.2.2.2.2.2 = 1 := by simpa using hw
                rcases hc with ⟨e0, -⟩ | ⟨hne, e1, -, a, as, e2, e3, e4, ga, h13, gS⟩ | ⟨-, e17, e1, -, a, as, e2, e3, e4, ga, gb⟩ | ⟨⟨e8, -⟩ | ⟨e9, -⟩, -⟩
                · omega
                · have e1 : qm = me' := e1
                  have e2 : qa = (2, a) :: as := e2
                  subst e1; subst e2
                  obtain ⟨nn, hSa⟩ := pm_hasS gS
                  have hck := (pm_lnkS hl).2.1
                  have m1 := (pm_okM hck (Or.inr (Or.inl hh))).1
                  refine pm_callV ih C Y hl (v0 := (2, a)) (pm_vref ga) ?_ hX h7 hlen hd20 hdg hh e3 e4 h4 hrc1 hrs1 k
                  obtain ⟨cell, q1, q2, q3, -⟩ := Y.obj hSa h13
                  refine ⟨cell, q1, by rw [q3]; rfl, ?_⟩
                  rw [m1, q2]
                  exact (C.2.2.2.2.2.1.1 _ h13).2.1
                · have e1 : qm = me' := e1
                  have e2 : qa = (3, a) :: as := e2
                  subst e1; subst e2
                  have hck := (pm_lnkS hl).2.1
                  have m1 := (pm_okM hck (Or.inr (Or.inl hh))).1
                  refine pm_callV ih C Y hl (v0 := (3, a)) (b := E.2.2.1 a.toNat) rfl ?_ hX h7 hlen hd20 hdg hh e3 e4 h4 hrc1 hrs1 k
                  rw [m1, e17]
                  exact vk_recv C.2.2.2.2.2.1.2.2.2.2.1.1 (by omega) Y.2.2.1
                · omega
                · omega
              · rcases hc with ⟨e0, e1, e3, e4, -⟩ | ⟨hne, -⟩ | ⟨e1, -⟩ | ⟨h89, o, b, p', x, -, -, e5, -⟩
                · have e1 : qm = me' := e1
                  subst e1
                  exact pm_callS ih C Y hl hX h7 hlen hd20 hdg e0 e3 e4 h4 hrc1 hrs1 k
                · exfalso
                  simp only [Bool.or_eq_true, beq_iff_eq] at hw
                  omega
                · exfalso
                  rw [e1] at hw
                  cases hw
                · cases e5
              · have hh : (me'.2.2.2.2.2.2 = 2 ∨ me'.2.2.2.2.2.2 = 12) ∨ me'.2.2.2.2.2.2 = 3 := by simpa using hw
                rcases hc with ⟨e0, -⟩ | ⟨hne, e1, -, a, as, e2, e3, e4, ga, h13, gS⟩ | ⟨e1, -⟩ | ⟨⟨e8, -⟩ | ⟨e9, -⟩, -⟩
                · omega
                · have e1 : qm = me' := e1
                  have e2 : qa = (2, a) :: as := e2
                  subst e1; subst e2
                  rcases hh with (hh | hh) | hh
                  · exact pm_callI ih C Y hl (v0 := (2, a)) (pm_vref ga) hX h7 hlen hd20 hdg hh e3 e4 h4 hrc1 hrs1 k
                  · exact pm_callIN ih C Y hl (v0 := (2, a)) (pm_vref ga) hX h7 hlen hd20 hdg hh e3 e4 h4 hrc1 hrs1 k
                  · omega
                · omega
                · omega
                · omega
          · sorry
end PMX

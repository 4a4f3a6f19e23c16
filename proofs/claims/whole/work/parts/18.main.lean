/-! the whole run -/
section PMX
variable {E : pm_E} {D : va_G} {cs : Nat → ClassId} {sc : Nat × (Nat → Int)} {l : Launch}
theorem pm_guardN_ok : pm_lks.all (fun e => decide ((e.2.2.1.2.2.2.2.2.2 = 8 → e.2.2.1.1 = yL_node) ∧ (e.2.2.1.2.2.2.2.2.2 = 9 → e.2.2.1.1 = yL_test))) = true := by decide +kernel
theorem pm_guardN {o i : Nat} {me' : pm_Me} (h : pm_lnk o i = some me') : (me'.2.2.2.2.2.2 = 8 → me'.1 = yL_node) ∧ (me'.2.2.2.2.2.2 = 9 → me'.1 = yL_test) := by
  unfold pm_lnk at h
  cases he : pm_lks.find? (fun e => e.1 == o && e.2.1 == i) with
  | none => rw [he] at h; cases h
  | some e =>
    rw [he] at h
    cases h
    exact of_decide_eq_true (List.all_eq_true.mp pm_guardN_ok e (List.mem_of_find?_eq_some he))
/-- the cells that were there keep their kinds -/
theorem pm_ins_keep {me : pm_Me} {pc len : Nat} {ls st : List pm_V} {S : pm_S} {M : pm_M} {q : Nat × List pm_V × List pm_V × pm_S × pm_M} {i : Instr} (h : pm_ins sc me pc ls st S M len i = some (.inl q)) : ∃ X, q.2.2.2.1 = S ++ X := by
  cases i with
  | newarray ty =>
    simp only [pm_ins] at h
    split at h
    · split at h
      · cases ty <;> simp only [] at h <;> first | exact ⟨_, by rw [pm_nxE h]⟩ | cases h
      · cases h
    · cases h
  | multianewarray j k =>
    simp only [pm_ins] at h
    split at h
    · split at h
      · exact ⟨_, by rw [pm_nxE h]⟩
      · cases h
    · cases h
  | new j =>
    simp only [pm_ins] at h
    split at h
    · split at h
      · exact ⟨_, by rw [pm_nxE h]⟩
      · split at h <;> cases h
    · cases h
  | invokevirtual j =>
    simp only [pm_ins] at h
    split at h
    · split at h
      · rcases (pm_invS h).2 with ⟨-, a, t, -, -, -, rfl⟩ | ⟨-, n, dp, b, sp, a, t, la, lb, -, -, -, -, -, -, rfl⟩ | ⟨-, b, a, t, -, -, rfl⟩ | ⟨-, b, a, t, -, -, rfl⟩ | ⟨-, a, t, -, -, rfl⟩ <;> exact ⟨[], (List.append_nil _).symm⟩
      · cases h
    · cases h
  | invokestatic j =>
    simp only [pm_ins] at h
    split at h
    · split at h
      · rcases (pm_invS h).2 with ⟨-, a, t, -, -, -, rfl⟩ | ⟨-, n, dp, b, sp, a, t, la, lb, -, -, -, -, -, -, rfl⟩ | ⟨-, b, a, t, -, -, rfl⟩ | ⟨-, b, a, t, -, -, rfl⟩ | ⟨-, a, t, -, -, rfl⟩ <;> exact ⟨[], (List.append_nil _).symm⟩
      · cases h
    · cases h
  | invokespecial j =>
    simp only [pm_ins] at h
    split at h
    · split at h
      · rcases (pm_invS h).2 with ⟨-, a, t, -, -, -, rfl⟩ | ⟨-, n, dp, b, sp, a, t, la, lb, -, -, -, -, -, -, rfl⟩ | ⟨-, b, a, t, -, -, rfl⟩ | ⟨-, b, a, t, -, -, rfl⟩ | ⟨-, a, t, -, -, rfl⟩ <;> exact ⟨[], (List.append_nil _).symm⟩
      · cases h
    · cases h
  | _ =>
    simp only [pm_ins, pm_bin, pm_una, pm_biL, pm_shL, pm_jmp, pm_ld, pm_sto, pm_arr] at h
    first
      | (cases h; done)
      | (repeat' split at h) <;> first | (cases h; done) | exact ⟨[], by rw [pm_nxE h, List.append_nil]⟩
theorem pm_X_app : ∀ (n d : Nat) (me : pm_Me) (pc : Nat) (ls st : List pm_V) (S : pm_S) (M : pm_M) (r : Option pm_V) (S' : pm_S) (M' : pm_M), pm_X sc n d me pc ls st S M = some (r, S', M') → ∃ X, S' = S ++ X := by
  intro n
  induction n with
  | zero => intro d me pc ls st S M r S' M' h; cases h
  | succ n ih =>
    intro d me pc ls st S M r S' M' h
    unfold pm_X at h
    split at h
    · cases h
    · rename_i q hq
      obtain ⟨X1, h1⟩ : ∃ X, q.2.2.2.1 = S ++ X := by
        unfold pm_step at hq
        split at hq
        · exact pm_ins_keep hq
        · cases hq
      obtain ⟨X2, h2⟩ := ih _ _ _ _ _ _ _ _ _ _ h
      exact ⟨X1 ++ X2, by rw [h2, h1, List.append_assoc]⟩
    · cases h
      exact ⟨_, rfl⟩
    · cases h
      exact ⟨[], (List.append_nil _).symm⟩
    · split at h
      · cases h
      · split at h
        · cases h
        · rename_i r1 S1 M1 hX
          obtain ⟨X1, h1⟩ := ih _ _ _ _ _ _ _ _ _ _ hX
          split at h
          · split at h
            · cases h
            · obtain ⟨X2, h2⟩ := ih _ _ _ _ _ _ _ _ _ _ h
              exact ⟨X1 ++ X2, by rw [h2, h1, List.append_assoc]⟩
          · split at h
            · obtain ⟨X2, h2⟩ := ih _ _ _ _ _ _ _ _ _ _ h
              exact ⟨X1 ++ X2, by rw [h2, h1, List.append_assoc]⟩
            · obtain ⟨X2, h2⟩ := ih _ _ _ _ _ _ _ _ _ _ h
              exact ⟨X1 ++ X2, by rw [h2, h1, List.append_assoc]⟩
            · cases h
theorem pm_X_keep (n d : Nat) (me : pm_Me) (pc : Nat) (ls st : List pm_V) (S : pm_S) (M : pm_M) (r : Option pm_V) (S' : pm_S) (M' : pm_M) (h : pm_X sc n d me pc ls st S M = some (r, S', M')) (k : Nat) (v : Nat × Nat) (hk : S[k]? = some v) : S'[k]? = some v := by
  obtain ⟨X, rfl⟩ := pm_X_app _ _ _ _ _ _ _ _ _ _ _ h
  rw [List.getElem?_append_left (List.getElem?_eq_some_iff.mp hk).1]
  exact hk
theorem pm_X_seven : ∀ (n d : Nat) (me : pm_Me) (pc : Nat) (ls st : List pm_V) (S : pm_S) (M : pm_M) (x : Int) (S' : pm_S) (M' : pm_M), pm_X sc n d me pc ls st S M = some (some (7, x), S', M') → (some ((7, x) : pm_V)) = some (7, 0) := by
  intro n
  induction n with
  | zero => intro d me pc ls st S M r S' M' h; cases h
  | succ n ih =>
    intro d me pc ls st S M x S' M' h
    unfold pm_X at h
    split at h
    · cases h
    · exact ih _ _ _ _ _ _ _ _ _ _ h
    · cases h
      rfl
    · rename_i r0 hr0 hq
      cases h
      exact absurd rfl (hr0 x)
    · split at h
      · cases h
      · split at h
        · cases h
        · split at h
          · split at h
            · cases h
            · exact ih _ _ _ _ _ _ _ _ _ _ h
          · split at h
            · exact ih _ _ _ _ _ _ _ _ _ _ h
            · exact ih _ _ _ _ _ _ _ _ _ _ h
            · cases h
theorem pm_guardC {p : Program} {e : Env} {R : Room} {s : State} {m : MethodId} {args : Array Value} {below : List Frame} {meth : Method} {c : Code} {H : Heap} {locs : List Loc} {cells slots : Nat} {Q : State → Prop} {me me' qm : pm_Me} {n d pc j : Nat} {ls qr : List pm_V} {S S1 : pm_S} {M M2 : pm_M} {Ls : Array Slot} {o b p' x bb : Int} (_ : pm_Sn E D cs sc l n) (C : pm_C E D cs sc p R s m args meth c me d) (Y : pm_Y E D cs s me S M ls ((2, o) :: (0, b) :: (0, p') :: (2, x) :: qr) H locs Ls) (hl : pm_lnk me.2.2.1 j = some me') {yl : MethodName} {cc : ByteArray} {j0 : Nat} (F : pm_GF yl cc j0 qm) (hyl : me'.1 = yl) (h89 : me'.2.2.2.2.2.2 = 8 ∨ me'.2.2.2.2.2.2 = 9)
    (hM : Met l yl (pm_wl yl cc) (pm_rm (d - 1) (S1.length - S.length) (pm_sz S1 - pm_sz S)) (pm_Pc E D cs sc [(2, x), (0, p'), (0, b), (2, o)] S M) (pm_Qc E D cs (some (0, bb)) S1 M2) (S1.length - S.length) (pm_sz S1 - pm_sz S) (pm_A E)) (hd : 20 ≤ d) (hdg : decode me.2.1 pc = .ok (.invokestatic j, 3)) (gx : 0 ≤ x) (go : 0 ≤ o) (h4 : qr.length ≤ 4) (hrc : cells + (S1.length - S.length) ≤ R.cells) (hrs : slots + (pm_sz S1 - pm_sz S) ≤ R.slots)
    (k : pm_ck2 E D cs p l e R s m args below meth c me Q cells slots S pc ls qr (some (0, bb)) S1 M2) : W p l e R s m args below meth c H locs cells slots Q (F0 m pc Ls (((2, o) :: (0, b) :: (0, p') :: (2, x) :: qr : List pm_V).map (pm_v E))) := by
  subst hyl
  obtain ⟨-, hcw, hy, hcl, hpd, -⟩ := F
  obtain ⟨hq, -, -⟩ := pm_lnkS hl
  have hts := C.2.2.2.2.1
  have hq2 : ∀ w ∈ [Cond.methodLink (pm_own me.2.2.1) j me'.1, .static me'.1, .initialized me'.1.cls], w ∈ pm_GW := by
    unfold pm_req at hq
    rcases h89 with h | h <;> rw [h] at hq <;> exact hq
  have hG : GoodIn pm_GW (pm_wl me'.1 cc) := by
    intro w hw
    rcases List.mem_cons.mp hw with rfl | hw
    · exact ⟨pm_hGW hcw rfl, Or.inl rfl⟩
    · exact pm_goodGW w hw
  have hs := pm_sum E qr h4
  have hRR := C.2.2.2.2.2.2.2
  refine pm_cont (vx_runSW (hh := [(0, 10, 13, 13)]) (bytes := cc) (maxL := 5) (ret := some .int) (Ts := pm_GW) (own := pm_own me.2.2.1) (As := ([(2, x), (0, p'), (0, b), (2, o)] : List pm_V).map (pm_v E)) (rest := qr.map (pm_v E)) ⟨C.1, C.2.1, C.2.2.1, C.2.2.2.1, hts⟩ hM
    ⟨⟨rfl, rfl, by show d - 1 + 1 ≤ R.frames; omega, by show 8 + (5 + 11) + 64 * (d - 1) ≤ R.locals; omega, pay_in hts hG, List.mem_cons_self⟩, hts _ (pm_hGW hcw rfl), hts _ (hq2 _ (by simp)), by rw [hcl]; exact ⟨by decide, by decide⟩, fun sig h => by rw [h] at hpd; exact (Option.some.inj hpd).symm, hts _ (hq2 _ (by simp)), hts _ (hq2 _ (by simp))⟩
    ⟨pm_Pc_blind, pm_pre C Y rfl⟩ rfl rfl (by rw [Y.2.2.2.1.1]; exact Y.2.2.2.2.1) rfl (by show 2 * 0 + _ ≤ 8; omega) hdg ⟨hrc, hrs⟩) Y.2.2.1 (pm_after Y (fun v hv => Y.i (List.mem_cons_of_mem _ (List.mem_cons_of_mem _ (List.mem_cons_of_mem _ (List.mem_cons_of_mem _ hv))))) k)
theorem pm_sound (hflags : l.stackTraces = false) : ∀ n : Nat, pm_Sn E D cs sc l n := by
  intro n
  induction n with
  | zero =>
    intro d me pc ls st S M r S' M' h
    cases h
  | succ n ih =>
    intro d me pc ls st S M r S' M' h p e R s m args below meth c H locs Ls cells slots Q C Y hrc hrs kT
    have hmono := pm_X_mono (n + 1) d me pc ls st S M r S' M' h
    unfold pm_X at h
    split at h
    · cases h
    · rename_i q hq
      have hm1 : S.length ≤ q.2.2.2.1.length ∧ pm_sz S ≤ pm_sz q.2.2.2.1 := by
        unfold pm_step at hq
        split at hq
        · exact pm_ins_mono hq
        · cases hq
      have hm2 := pm_X_mono _ _ _ _ _ _ _ _ _ _ _ h
      refine pm_stepS C hq Y (by omega) (by omega) ?_
      intro H' locs' Ls' Y'
      refine ih d me q.1 q.2.1 q.2.2.1 q.2.2.2.1 q.2.2.2.2 r S' M' h p e R s m args below meth c H' locs' Ls' _ _ Q C Y' (by omega) (by omega) ?_
      intro pcT ST lsT stT H2 locs2 Ls2 hT h1 h2 Y2
      have h3 := kT pcT ST lsT stT H2 locs2 Ls2 hT (by omega) (by omega) Y2
      rw [show cells + (q.2.2.2.1.length - S.length) + (ST.length - q.2.2.2.1.length) = cells + (ST.length - S.length) by omega, show slots + (pm_sz q.2.2.2.1 - pm_sz S) + (pm_sz ST - pm_sz q.2.2.2.1) = slots + (pm_sz ST - pm_sz S) by omega]
      exact h3
    · rename_i x hq
      have hT : pm_Tm me pc st S (some (7, x)) (if (some (7, x) : Option pm_V) = some (7, 0) then S ++ [(18, 6)] else S) := by
        unfold pm_step at hq
        split at hq
        · exact pm_insD ‹_› hq
        · cases hq
      cases h
      have hx : x = 0 := by
        rcases hT with ⟨-, ⟨y, -, -, h2, -⟩ | ⟨y, -, -, h2, -⟩ | ⟨-, -, h2, -⟩⟩ | ⟨-, j, -, -, -, h2, -⟩
        · cases h2
        · cases h2
        · cases h2
        · cases h2
          rfl
      subst hx
      rw [if_pos rfl] at hT
      have h3 := kT pc S ls st H locs Ls hT (Nat.le_refl _) (Nat.le_refl _) Y
      rw [Nat.sub_self, Nat.sub_self] at h3
      exact h3
    · rename_i r0 hr0 hq
      have hT : pm_Tm me pc st S r0 (if r0 = some (7, 0) then S ++ [(18, 6)] else S) := by
        unfold pm_step at hq
        split at hq
        · exact pm_insD ‹_› hq
        · cases hq
      cases h
      rw [if_neg (fun q => hr0 0 (by rw [q]))] at hT
      have h3 := kT pc S ls st H locs Ls hT (Nat.le_refl _) (Nat.le_refl _) Y
      rw [Nat.sub_self, Nat.sub_self] at h3
      exact h3
    · rename_i q hq
      split at h
      · cases h
      · rename_i hd
        have hd20 : 20 ≤ d := by omega
        have hlen : (pm_ent q.1.2.2.2.1 q.2.1).length = q.1.2.2.2.1 := by
          by_cases e : (pm_ent q.1.2.2.2.1 q.2.1).length = q.1.2.2.2.1
          · exact e
          · exact absurd (Or.inr e) hd
        split at h
        · cases h
        · rename_i r1 S1 M1 hX
          have hm1 := pm_X_mono _ _ _ _ _ _ _ _ _ _ _ hX
          obtain ⟨j, me', hl, hc⟩ : ∃ j me', pm_lnk me.2.2.1 j = some me' ∧ ((decode me.2.1 pc = .ok (.invokevirtual j, 3) ∧ pm_Cl (fun h => h == 1) me' st S q) ∨ (decode me.2.1 pc = .ok (.invokestatic j, 3) ∧ pm_Cl (fun h => h == 0 || h == 7 || h == 8 || h == 9 || h == 13 || h == 14 || h == 15) me' st S q) ∨ (decode me.2.1 pc = .ok (.invokespecial j, 3) ∧ pm_Cl (fun h => h == 2 || h == 12 || h == 3) me' st S q)) := by
            unfold pm_step at hq
            split at hq
            · exact pm_insC ‹_› hq
            · cases hq
          obtain ⟨qm, qa, qr, qo⟩ := q
          split at h
          · rename_i hnone
            have hnone : qo = none := hnone
            subst hnone
            split at h
            · cases h
            · rename_i h7
              have hm2 := pm_X_mono _ _ _ _ _ _ _ _ _ _ _ h
              have k : pm_ck2 E D cs p l e R s m args below meth c me Q cells slots S pc ls qr r1 S1 M1 := by
                intro H' locs' Ls' Y'
                refine ih d me (pc + 3) ls (r1.toList ++ qr) S1 M1 r S' M' h p e R s m args below meth c H' locs' Ls' _ _ Q C Y' (by omega) (by omega) ?_
                intro pcT ST lsT stT H2 locs2 Ls2 hT h1 h2 Y2
                have h3 := kT pcT ST lsT stT H2 locs2 Ls2 hT (by omega) (by omega) Y2
                rw [show cells + (S1.length - S.length) + (ST.length - S1.length) = cells + (ST.length - S.length) by omega, show slots + (pm_sz S1 - pm_sz S) + (pm_sz ST - pm_sz S1) = slots + (pm_sz ST - pm_sz S) by omega]
                exact h3
              have hX : pm_X sc n (d - 1) qm 0 (pm_ent qm.2.2.2.1 qa) [] S M = some (r1, S1, M1) := hX
              have hrc1 : cells + (S1.length - S.length) ≤ R.cells := by omega
              have hrs1 : slots + (pm_sz S1 - pm_sz S) ≤ R.slots := by omega
              rcases hc with ⟨hdg, hw, h4, hc⟩ | ⟨hdg, hw, h4, hc⟩ | ⟨hdg, hw, h4, hc⟩
              · have hh : me'.2.2.2.2.2.2 = 1 := by simpa using hw
                rcases hc with ⟨e0, -⟩ | ⟨hne, e1, -, a, as, e2, e3, e4, ga, h13, gS⟩ | ⟨-, e17, e1, -, a, as, e2, e3, e4, ga, gb⟩ | ⟨⟨e8, -⟩ | ⟨e9, -⟩, -⟩
                · omega
                · have e1 : qm = me' := e1
                  have e2 : qa = (2, a) :: as := e2
                  subst e1; subst e2
                  obtain ⟨nn, hSa⟩ := pm_hasS gS
                  have hck := (pm_lnkS hl).2.1
                  have m1 := (pm_okM hck (Or.inr (Or.inl hh))).1
                  refine pm_callV ih C Y hl (v0 := (2, a)) (pm_vref ga) ?_ hX h7 hlen hd20 hdg hh e3 e4 h4 hrc1 hrs1 k
                  obtain ⟨cell, q1, q2, q3, -⟩ := Y.obj hSa h13
                  refine ⟨cell, q1, by rw [q3]; rfl, ?_⟩
                  rw [m1, q2]
                  exact (C.2.2.2.2.2.1.1 _ h13).2.1
                · have e1 : qm = me' := e1
                  have e2 : qa = (3, a) :: as := e2
                  subst e1; subst e2
                  have hck := (pm_lnkS hl).2.1
                  have m1 := (pm_okM hck (Or.inr (Or.inl hh))).1
                  refine pm_callV ih C Y hl (v0 := (3, a)) (b := E.2.2.1 a.toNat) rfl ?_ hX h7 hlen hd20 hdg hh e3 e4 h4 hrc1 hrs1 k
                  rw [m1, e17]
                  exact vk_recv C.2.2.2.2.2.1.2.2.2.2.1.1 (by omega) Y.2.2.1
                · omega
                · omega
              · rcases hc with ⟨e0, e1, e3, e4, -⟩ | ⟨hne, -⟩ | ⟨e1, -⟩ | ⟨h89, o, b, p', x, -, -, e5, -⟩
                · have e1 : qm = me' := e1
                  subst e1
                  exact pm_callS ih C Y hl hX h7 hlen hd20 hdg e0 e3 e4 h4 hrc1 hrs1 k
                · exfalso
                  simp only [Bool.or_eq_true, beq_iff_eq] at hw
                  omega
                · exfalso
                  rw [e1] at hw
                  cases hw
                · cases e5
              · have hh : (me'.2.2.2.2.2.2 = 2 ∨ me'.2.2.2.2.2.2 = 12) ∨ me'.2.2.2.2.2.2 = 3 := by simpa using hw
                rcases hc with ⟨e0, -⟩ | ⟨hne, e1, -, a, as, e2, e3, e4, ga, h13, gS⟩ | ⟨e1, -⟩ | ⟨⟨e8, -⟩ | ⟨e9, -⟩, -⟩
                · omega
                · have e1 : qm = me' := e1
                  have e2 : qa = (2, a) :: as := e2
                  subst e1; subst e2
                  rcases hh with (hh | hh) | hh
                  · exact pm_callI ih C Y hl (v0 := (2, a)) (pm_vref ga) hX h7 hlen hd20 hdg hh e3 e4 h4 hrc1 hrs1 k
                  · exact pm_callIN ih C Y hl (v0 := (2, a)) (pm_vref ga) hX h7 hlen hd20 hdg hh e3 e4 h4 hrc1 hrs1 k
                  · omega
                · omega
                · omega
                · omega
          · rename_i o' ho'
            have ho' : qo = some o' := ho'
            subst ho'
            rcases hc with ⟨hdg, hw, h4, hc⟩ | ⟨hdg, hw, h4, hc⟩ | ⟨hdg, hw, h4, hc⟩
            · exfalso
              rcases hc with ⟨-, -, -, -, e5⟩ | ⟨-, -, e5, -⟩ | ⟨-, -, -, e5, -⟩ | ⟨⟨e8, -⟩ | ⟨e9, -⟩, -⟩
              · cases e5
              · cases e5
              · cases e5
              · rw [e8] at hw
                cases hw
              · rw [e9] at hw
                cases hw
            · rcases hc with ⟨-, -, -, -, e5⟩ | ⟨-, -, e5, -⟩ | ⟨-, -, -, e5, -⟩ | ⟨h89, o, b, p', x, e1, e2, e3, go, gx, gS, gX⟩
              · cases e5
              · cases e5
              · cases e5
              · have e2 : qa = [(2, x), (0, p'), (0, b)] := e2
                have e3 : some o' = some o.toNat := e3
                cases e3
                subst e2
                have e1 : st = (2, o) :: (0, b) :: (0, p') :: (2, x) :: qr := e1
                subst e1
                have hX : pm_X sc n (d - 2) qm 0 (pm_ent qm.2.2.2.1 [(2, x), (0, p'), (0, b)]) [] S M = some (r1, S1, M1) := hX
                have hS1o := pm_X_keep _ _ _ _ _ _ _ _ _ _ _ hX o.toNat _ gS
                have hin : pm_in (0, p') := Y.i (List.mem_cons_of_mem _ (List.mem_cons_of_mem _ List.mem_cons_self))
                have hinb : pm_in (0, b) := Y.i (List.mem_cons_of_mem _ List.mem_cons_self)
                have key : ∀ (bb : Int) (M2 : pm_M), ((r1 = some (7, 0) ∧ bb = 1 ∧ M2 = M1) ∨ ∃ v, r1 = some (0, v) ∧ bb = 0 ∧ M2 = pm_up M1 o.toNat 0 v) → pm_X sc n d me (pc + 3) ls ((0, bb) :: qr) S1 M2 = some (r, S', M') → W p l e R s m args below meth c H locs cells slots Q (F0 m pc Ls (((2, o) :: (0, b) :: (0, p') :: (2, x) :: qr : List pm_V).map (pm_v E))) := by
                  intro bb M2 hbb hX2
                  have hm2 := pm_X_mono _ _ _ _ _ _ _ _ _ _ _ hX2
                  have k : pm_ck2 E D cs p l e R s m args below meth c me Q cells slots S pc ls qr (some (0, bb)) S1 M2 := by
                    intro H' locs' Ls' Y'
                    refine ih d me (pc + 3) ls ((0, bb) :: qr) S1 M2 r S' M' hX2 p e R s m args below meth c H' locs' Ls' _ _ Q C Y' (by omega) (by omega) ?_
                    intro pcT ST lsT stT H2 locs2 Ls2 hT h1 h2 Y2
                    have h3 := kT pcT ST lsT stT H2 locs2 Ls2 hT (by omega) (by omega) Y2
                    rw [show cells + (S1.length - S.length) + (ST.length - S1.length) = cells + (ST.length - S.length) by omega, show slots + (pm_sz S1 - pm_sz S) + (pm_sz ST - pm_sz S1) = slots + (pm_sz ST - pm_sz S) by omega]
                    exact h3
                  have go1 : ∀ {yl : MethodName} {cc : ByteArray} {j0 : Nat}, pm_GF yl cc j0 qm → me'.1 = yl → (me'.2.2.2.2.2.2 = 8 ∨ me'.2.2.2.2.2.2 = 9) → W p l e R s m args below meth c H locs cells slots Q (F0 m pc Ls (((2, o) :: (0, b) :: (0, p') :: (2, x) :: qr : List pm_V).map (pm_v E))) := by
                    intro yl cc j0 F hyl h89'
                    have hM := pm_lawM (d := d) (D := D) (cs := cs) (E := E) hflags ih F hX hlen hd20 gx go gS gX hin hinb hS1o hbb
                    exact pm_guardC ih C Y hl F hyl h89' hM hd20 hdg gx go h4 (by omega) (by omega) k
                  rcases h89 with ⟨e8, eq8⟩ | ⟨e9, eq9⟩
                  · have eq8 : qm = mX11_node := eq8
                    subst eq8
                    exact go1 pm_GFn ((pm_guardN hl).1 e8) (Or.inl e8)
                  · have eq9 : qm = mX11_test := eq9
                    subst eq9
                    exact go1 pm_GFt ((pm_guardN hl).2 e9) (Or.inr e9)
                split at h
                · rename_i x7
                  have hx7 := pm_X_seven _ _ _ _ _ _ _ _ _ _ _ hX
                  exact key 1 M1 (Or.inl ⟨hx7, rfl, rfl⟩) h
                · exact key 0 _ (Or.inr ⟨_, rfl, rfl, rfl⟩) h
                · cases h
            · exfalso
              rcases hc with ⟨-, -, -, -, e5⟩ | ⟨-, -, e5, -⟩ | ⟨-, -, -, e5, -⟩ | ⟨⟨e8, -⟩ | ⟨e9, -⟩, -⟩
              · cases e5
              · cases e5
              · cases e5
              · rw [e8] at hw
                cases hw
              · rw [e9] at hw
                cases hw
end PMX

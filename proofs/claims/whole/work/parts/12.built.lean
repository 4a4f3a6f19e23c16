/-! calls that the small machine does at once -/
section PMB
variable {p : Program} {l : Launch} {e : Env} {R : Room} {s : State} {m : MethodId} {args : Array Value} {below : List Frame} {meth : Method} {c : Code} {H : Heap} {locs : List Loc} {cells slots : Nat} {Q : State → Prop}
variable {E : pm_E} {D : va_G} {cs : Nat → ClassId} {sc : Nat × (Nat → Int)} {me : pm_Me} {d pc len : Nat} {ls st t : List pm_V} {S : pm_S} {M : pm_M} {Ls : Array Slot} {q : Nat × List pm_V × List pm_V × pm_S × pm_M}
theorem pm_invS {hw : Nat → Bool} {me' : pm_Me} (h : pm_inv hw me' st S pc ls M = some (.inl q)) :
    hw me'.2.2.2.2.2.2 = true ∧ ((me'.2.2.2.2.2.2 = 3 ∧ ∃ a t, st = (2, a) :: t ∧ 0 ≤ a ∧ t.length ≤ 4 ∧ q = (pc + 3, ls, t, S, M)) ∨
    (me'.2.2.2.2.2.2 = 7 ∧ ∃ n dp b sp a t la lb, st = (0, n) :: (0, dp) :: (2, b) :: (0, sp) :: (2, a) :: t ∧ (0 ≤ a ∧ 0 ≤ b ∧ 0 ≤ n ∧ 0 ≤ dp ∧ 0 ≤ sp ∧ t.length ≤ 4) ∧ S[a.toNat]? = some (14, la) ∧ S[b.toNat]? = some (14, lb) ∧ sp + n ≤ (la : Int) ∧ dp + n ≤ (lb : Int) ∧ q = (pc + 3, ls, t, S, pm_nw M b.toNat (fun j => if dp.toNat ≤ j ∧ j < dp.toNat + n.toNat then M a.toNat (sp.toNat + (j - dp.toNat)) else M b.toNat j))) ∨
    (me'.2.2.2.2.2.2 = 13 ∧ ∃ b a t, st = (0, b) :: (0, a) :: t ∧ t.length ≤ 4 ∧ q = (pc + 3, ls, (0, if a < b then b else a) :: t, S, M)) ∨
    (me'.2.2.2.2.2.2 = 14 ∧ ∃ b a t, st = (0, b) :: (0, a) :: t ∧ t.length ≤ 4 ∧ q = (pc + 3, ls, (0, if b < a then b else a) :: t, S, M)) ∨
    (me'.2.2.2.2.2.2 = 15 ∧ ∃ a t, st = (0, a) :: t ∧ t.length ≤ 4 ∧ q = (pc + 3, ls, (0, if 0 ≤ a then a else w32 (0 - a)) :: t, S, M))) := by
  unfold pm_inv at h
  split at h
  · refine ⟨‹_›, ?_⟩
    split at h
    · split at h <;> cases h
    · rename_i e
      split at h
      · split at h
        · rename_i g
          exact Or.inl ⟨e, _, _, rfl, g.1, g.2, pm_nxE h⟩
        · cases h
      · cases h
    · rename_i e
      split at h
      · split at h
        · rename_i g
          split at h
          · split at h
            · rename_i g2
              exact Or.inr (Or.inl ⟨e, _, _, _, _, _, _, _, _, rfl, g, ‹_›, ‹_›, g2.1, g2.2, pm_nxE h⟩)
            · cases h
          · cases h
        · cases h
      · cases h
    · rename_i e
      split at h
      · split at h
        · exact Or.inr (Or.inr (Or.inl ⟨e, _, _, _, rfl, ‹_›, pm_nxE h⟩))
        · cases h
      · cases h
    · rename_i e
      split at h
      · split at h
        · exact Or.inr (Or.inr (Or.inr (Or.inl ⟨e, _, _, _, rfl, ‹_›, pm_nxE h⟩)))
        · cases h
      · cases h
    · rename_i e
      split at h
      · split at h
        · exact Or.inr (Or.inr (Or.inr (Or.inr ⟨e, _, _, rfl, ‹_›, pm_nxE h⟩)))
        · cases h
      · cases h
    · split at h
      · split at h <;> cases h
      · cases h
    · split at h
      · split at h <;> cases h
      · cases h
    · split at h
      · split at h
        · split at h <;> cases h
        · split at h <;> cases h
        · cases h
      · cases h
  · cases h
theorem pm_nfw : nativeFrameWords "java/lang/System" "arraycopy" 5 ≤ 500 := by decide +kernel
theorem pm_Y.sz (Y : pm_Y E D cs s me S M ls st H locs Ls) (C : pm_C E D cs sc p R s m args meth c me d) : c.maxLocals = Ls.size := by rw [C.2.2.1, Y.2.2.2.1.1, Y.2.2.2.2.1]
theorem pm_hGW {w : Cond} (h : w ∈ lw_tbl) (hg : goodWord w = true) : w ∈ pm_GW := List.mem_filter.mpr ⟨h, hg⟩
theorem pm_math_ok : pm_lks.all (fun e => decide ((e.2.2.1.2.2.2.2.2.2 = 13 → e.2.2.1.1 = Lib.Math.max.name) ∧ (e.2.2.1.2.2.2.2.2.2 = 14 → e.2.2.1.1 = Lib.Math.min.name) ∧ (e.2.2.1.2.2.2.2.2.2 = 15 → e.2.2.1.1 = Lib.Math.abs.name))) = true := by decide +kernel
theorem pm_mathS {o i : Nat} {me' : pm_Me} (h : pm_lnk o i = some me') : (me'.2.2.2.2.2.2 = 13 → me'.1 = Lib.Math.max.name) ∧ (me'.2.2.2.2.2.2 = 14 → me'.1 = Lib.Math.min.name) ∧ (me'.2.2.2.2.2.2 = 15 → me'.1 = Lib.Math.abs.name) := by
  unfold pm_lnk at h
  cases he : pm_lks.find? (fun e => e.1 == o && e.2.1 == i) with
  | none => rw [he] at h; cases h
  | some e =>
    rw [he] at h
    cases h
    exact of_decide_eq_true (List.all_eq_true.mp pm_math_ok e (List.mem_of_find?_eq_some he))
theorem pi_invokevirtual {j : Nat} (C : pm_C E D cs sc p R s m args meth c me d) (hdg : decode me.2.1 pc = .ok (.invokevirtual j, len)) (h : pm_ins sc me pc ls st S M len (.invokevirtual j) = some (.inl q)) (Y : pm_Y E D cs s me S M ls st H locs Ls) (hrc : cells + (q.2.2.2.1.length - S.length) ≤ R.cells) (hrs : slots + (pm_sz q.2.2.2.1 - pm_sz S) ≤ R.slots) (k : pm_k E D cs p l e R s m args below meth c me Q cells slots S q) : W p l e R s m args below meth c H locs cells slots Q (F0 m pc Ls (st.map (pm_v E))) := by
  simp only [pm_ins] at h
  split at h
  · split at h
    · rename_i me' hl
      obtain ⟨hw, h0⟩ := pm_invS h
      have h1 : me'.2.2.2.2.2.2 = 1 := by simpa using hw
      rcases h0 with ⟨e, -⟩ | ⟨e, -⟩ | ⟨e, -⟩ | ⟨e, -⟩ | ⟨e, -⟩ <;> omega
    · cases h
  · cases h
theorem pi_invokespecial {j : Nat} (C : pm_C E D cs sc p R s m args meth c me d) (hdg : decode me.2.1 pc = .ok (.invokespecial j, len)) (h : pm_ins sc me pc ls st S M len (.invokespecial j) = some (.inl q)) (Y : pm_Y E D cs s me S M ls st H locs Ls) (hrc : cells + (q.2.2.2.1.length - S.length) ≤ R.cells) (hrs : slots + (pm_sz q.2.2.2.1 - pm_sz S) ≤ R.slots) (k : pm_k E D cs p l e R s m args below meth c me Q cells slots S q) : W p l e R s m args below meth c H locs cells slots Q (F0 m pc Ls (st.map (pm_v E))) := by
  simp only [pm_ins] at h
  split at h
  · rename_i g
    subst g
    split at h
    · rename_i me' hl
      obtain ⟨hw, h0⟩ := pm_invS h
      have h1 : (me'.2.2.2.2.2.2 = 2 ∨ me'.2.2.2.2.2.2 = 12) ∨ me'.2.2.2.2.2.2 = 3 := by simpa using hw
      rcases h0 with ⟨e, a, t, rfl, ga, gt, rfl⟩ | ⟨e, -⟩ | ⟨e, -⟩ | ⟨e, -⟩ | ⟨e, -⟩
      · obtain ⟨hq, -, -⟩ := pm_lnkS hl
        unfold pm_req at hq
        rw [e] at hq
        have hts := C.2.2.2.2.1
        have hs := pm_sum E t gt
        have hR := C.2.2.2.2.2.2.2
        rw [List.map_cons, pm_vref ga]
        exact W.objInit C.1 C.2.1 C.2.2.2.1 (hts _ (hq _ List.mem_cons_self)) (hts _ (hq _ (List.mem_cons_of_mem _ List.mem_cons_self))) (hts _ (pm_hGW pm_w_obj rfl)) rfl (Y.sz C).symm rfl hdg (by omega) (by show 2 * 0 + _ + 12 ≤ _; omega) (pm_k0 k (Y.stk (fun u hu => Y.i (List.mem_cons_of_mem _ hu))))
      all_goals omega
    · cases h
  · cases h
theorem pi_invokestatic {j : Nat} (C : pm_C E D cs sc p R s m args meth c me d) (hdg : decode me.2.1 pc = .ok (.invokestatic j, len)) (h : pm_ins sc me pc ls st S M len (.invokestatic j) = some (.inl q)) (Y : pm_Y E D cs s me S M ls st H locs Ls) (hrc : cells + (q.2.2.2.1.length - S.length) ≤ R.cells) (hrs : slots + (pm_sz q.2.2.2.1 - pm_sz S) ≤ R.slots) (k : pm_k E D cs p l e R s m args below meth c me Q cells slots S q) : W p l e R s m args below meth c H locs cells slots Q (F0 m pc Ls (st.map (pm_v E))) := by
  simp only [pm_ins] at h
  split at h
  · rename_i g
    subst g
    split at h
    · rename_i me' hl
      obtain ⟨hw, h0⟩ := pm_invS h
      have h1 : me'.2.2.2.2.2.2 ≠ 3 := by
        intro e
        rw [e] at hw
        cases hw
      have hR := C.2.2.2.2.2.2.2
      have hts := C.2.2.2.2.1
      obtain ⟨hq, -, -⟩ := pm_lnkS hl
      unfold pm_req at hq
      rcases h0 with ⟨eH, -⟩ | ⟨eH, n, dp, b, sp, a, t, la, lb, rfl, ⟨ga, gb, gn, gd, gs, gt⟩, ha, hb, g1, g2, rfl⟩ | ⟨eH, b, a, t, rfl, gt, rfl⟩ | ⟨eH, b, a, t, rfl, gt, rfl⟩ | ⟨eH, a, t, rfl, gt, rfl⟩
      · exact absurd eH h1
      · rw [eH] at hq
        have hs := pm_sum E t gt
        have hnr : -2147483648 ≤ n ∧ n < 2147483648 := (Y.i List.mem_cons_self).1 rfl
        have hdr : -2147483648 ≤ dp ∧ dp < 2147483648 := (Y.i (List.mem_cons_of_mem _ List.mem_cons_self)).1 rfl
        have hsr : -2147483648 ≤ sp ∧ sp < 2147483648 := (Y.i (List.mem_cons_of_mem _ (List.mem_cons_of_mem _ (List.mem_cons_of_mem _ List.mem_cons_self)))).1 rfl
        have nneg : ∀ z : Int, 0 ≤ z ∧ z < 2147483648 → ¬ Int32.ofInt z < 0 := fun z hz q => by have := (pm_lt (a := z) (b := 0) (by omega) (by omega)).mp q; omega
        have en := pm_clamp (a := n) ⟨gn, hnr.2⟩
        have ed := pm_clamp (a := dp) ⟨gd, hdr.2⟩
        have es := pm_clamp (a := sp) ⟨gs, hsr.2⟩
        have hc0 : H[E.1 + a.toNat]? = some (arrV (cs 14) la (fun j => Value.int (Int32.ofInt (M a.toNat j)))) := Y.arr ha (by decide) (by decide)
        have hc1 : H[E.1 + b.toNat]? = some (arrV (cs 14) lb (fun j => Value.int (Int32.ofInt (M b.toNat j)))) := Y.arr hb (by decide) (by decide)
        rw [List.map_cons, List.map_cons, List.map_cons, List.map_cons, List.map_cons, pm_vref ga, pm_vref gb]
        intro T hT X
        obtain ⟨-, k0, hk0, cm0, hkk0⟩ := (C.2.2.2.2.2.1.2.1 14 (by decide) (by decide)).1 la (fun j => .int (Int32.ofInt (M a.toNat j)))
        obtain ⟨-, k1, hk1, cm1, hkk1⟩ := (C.2.2.2.2.2.1.2.1 14 (by decide) (by decide)).1 lb (fun j => .int (Int32.ofInt (M b.toNat j)))
        obtain ⟨vm', X', step⟩ := X.arraycopy C.1 C.2.2.2.1 (hts _ (hq _ List.mem_cons_self)) (hts _ (hq _ (List.mem_cons_of_mem _ List.mem_cons_self))) (hts _ (hq _ (List.mem_cons_of_mem _ (List.mem_cons_of_mem _ List.mem_cons_self)))) (hts _ (hq _ (List.mem_cons_of_mem _ (List.mem_cons_of_mem _ (List.mem_cons_of_mem _ List.mem_cons_self))))) (src := E.1 + a.toNat) (dst := E.1 + b.toNat) (cs := arrV (cs 14) la (fun j => .int (Int32.ofInt (M a.toNat j)))) (cd := arrV (cs 14) lb (fun j => .int (Int32.ofInt (M b.toNat j)))) (srcPos := Int32.ofInt sp) (destPos := Int32.ofInt dp) (n := Int32.ofInt n) (by rw [hT]; exact hc0) (by rw [hT]; exact hc1)
          (fun _ h => by cases h) (fun _ h => by cases h) (fun h => by cases h) (fun h => by cases h) hk0 hk1 hkk0 hkk1 (by simp [refKind, pm_ka]) (nneg _ ⟨gs, hsr.2⟩) (nneg _ ⟨gd, hdr.2⟩) (nneg _ ⟨gn, hnr.2⟩)
          (by rw [pm_32id hsr, pm_32id hnr, arrV_size]; omega)
          (by rw [pm_32id hdr, pm_32id hnr, arrV_size]; omega)
          (fun vm₁ _ i hi => by
            rw [en] at hi
            have e9 : (arrV (cs 14) la (fun j => Value.int (Int32.ofInt (M a.toNat j)))).slots.getD ((Int32.ofInt sp).toNatClampNeg + i) .null = .int (Int32.ofInt (M a.toNat (sp.toNat + i))) := by
              rw [es, Array.getD_eq_getD_getElem?, arrV_read _ _ (by omega)]
              rfl
            refine ⟨?_, ?_⟩
            · rw [e9]
              rfl
            · rw [e9]
              exact trivial)
          (g := F0 m pc Ls (.int (Int32.ofInt n) :: .int (Int32.ofInt dp) :: .ref (E.1 + b.toNat) :: .int (Int32.ofInt sp) :: .ref (E.1 + a.toNat) :: t.map (pm_v E))) rfl (Y.sz C).symm (rest := t.map (pm_v E)) rfl (by rw [C.2.1]; exact hdg) (by omega) (by have := pm_nfw; show 2 * 0 + _ + _ ≤ _; omega)
        have e1 : copied (arrV (cs 14) la (fun j => Value.int (Int32.ofInt (M a.toNat j)))) (arrV (cs 14) lb (fun j => Value.int (Int32.ofInt (M b.toNat j)))) (Int32.ofInt sp) (Int32.ofInt dp) (Int32.ofInt n) = arrV (cs 14) lb (fun j => Value.int (va_cpy (fun j => Int32.ofInt (M a.toNat j)) (fun j => Int32.ofInt (M b.toNat j)) (Int32.ofInt sp).toNatClampNeg (Int32.ofInt dp).toNatClampNeg (Int32.ofInt n).toNatClampNeg j)) := va_copied (fun z => .int z) (cs 14) (cs 14) (fun j => Int32.ofInt (M a.toNat j)) (fun j => Int32.ofInt (M b.toNat j)) (by rw [es, en]; omega)
        rw [e1, en, ed, es] at X' step
        have hlt : E.1 + b.toNat < H.size := (Array.getElem?_eq_some_iff.mp hc1).1
        have oq : ∀ (x : Cell) (q : Nat), q ≠ E.1 + b.toNat → (H.setIfInBounds (E.1 + b.toNat) x)[q]? = H[q]? := fun x q hq => by simp [Array.getElem?_setIfInBounds, Ne.symm hq]
        have Y' : ∀ loc' : List Loc, (∀ z ∈ loc', z.base = E.1 + b.toNat) → pm_Y E D cs s me S (pm_nw M b.toNat (fun j => if dp.toNat ≤ j ∧ j < dp.toNat + n.toNat then M a.toNat (sp.toNat + (j - dp.toNat)) else M b.toNat j)) ls t (H.setIfInBounds (E.1 + b.toNat) (arrV (cs 14) lb (fun j => Value.int (va_cpy (fun j => Int32.ofInt (M a.toNat j)) (fun j => Int32.ofInt (M b.toNat j)) sp.toNat dp.toNat n.toNat j)))) (locs ++ loc') Ls := by
          intro loc' hloc
          refine ⟨Y.1.put hb (by simp) (oq _) ?_ (fun b' hb' => pm_nw_ne hb'), fun k' c' n' j' hk' => ?_, ⟨by simp; exact Y.2.2.1.1, fun q g1 g2 => ?_, fun z hz => ?_⟩, Y.2.2.2.1, Y.2.2.2.2.1, Y.2.2.2.2.2.1, fun u hu => Y.i (List.mem_cons_of_mem _ (List.mem_cons_of_mem _ (List.mem_cons_of_mem _ (List.mem_cons_of_mem _ (List.mem_cons_of_mem _ hu)))))⟩
          · unfold pm_cell
            rw [if_neg (by decide), if_pos (by decide), pm_nw_eq]
            rw [show (H.setIfInBounds (E.1 + b.toNat) (arrV (cs 14) lb (fun j => Value.int (va_cpy (fun j => Int32.ofInt (M a.toNat j)) (fun j => Int32.ofInt (M b.toNat j)) sp.toNat dp.toNat n.toNat j))))[E.1 + b.toNat]? = some (arrV (cs 14) lb (fun j => Value.int (va_cpy (fun j => Int32.ofInt (M a.toNat j)) (fun j => Int32.ofInt (M b.toNat j)) sp.toNat dp.toNat n.toNat j))) by simp [Array.getElem?_setIfInBounds, hlt]]
            refine congrArg some (pm_arrC (fun j hj => ?_))
            show Value.int (if dp.toNat ≤ j ∧ j < dp.toNat + n.toNat then Int32.ofInt (M a.toNat (sp.toNat + (j - dp.toNat))) else Int32.ofInt (M b.toNat j)) = Value.int (Int32.ofInt (if dp.toNat ≤ j ∧ j < dp.toNat + n.toNat then M a.toNat (sp.toNat + (j - dp.toNat)) else M b.toNat j))
            split <;> rfl
          · by_cases e2 : k' = b.toNat
            · subst e2
              cases hb.symm.trans hk'
              rw [pm_nw_eq]
              have ia := Y.2.1 a.toNat 14 la
              have ib := Y.2.1 b.toNat 14 lb
              show pm_in (pm_tg 14 j', if dp.toNat ≤ j' ∧ j' < dp.toNat + n.toNat then _ else _)
              split
              · exact (show pm_in (0, M a.toNat (sp.toNat + (j' - dp.toNat))) from ia (sp.toNat + (j' - dp.toNat)) ha)
              · exact ib _ hb
            · rw [pm_nw_ne e2]
              exact Y.2.1 k' c' n' j' hk'
          · rw [oq _ q (fun e3 => g2 (by rw [e3]; exact Nat.le_add_right _ _))]
            exact Y.2.2.1.2.1 q g1 g2
          · rcases List.mem_append.mp hz with h5 | h5
            · exact Y.2.2.1.2.2 z h5
            · rw [hloc z h5]
              exact Nat.le_add_right _ _
        obtain ⟨tt, a1, b1⟩ := pm_k0 k (Y' _ (fun z hz => by
          obtain ⟨z', -, hz'⟩ := List.mem_map.mp hz
          rw [← hz'])) _ (by rw [← hT]; rfl) X'
        exact ⟨tt, step tt a1, b1⟩
      · rw [eH] at hq
        have hs := pm_sum E t gt
        have hbr : -2147483648 ≤ b ∧ b < 2147483648 := (Y.i List.mem_cons_self).1 rfl
        have har : -2147483648 ≤ a ∧ a < 2147483648 := (Y.i (List.mem_cons_of_mem _ List.mem_cons_self)).1 rfl
        have hmax := pm_mathS hl
        show W p l e R s m args below meth c H locs cells slots Q (F0 m pc Ls (.int (Int32.ofInt b) :: .int (Int32.ofInt a) :: t.map (pm_v E)))
        rw [hmax.1 eH] at hq
        refine va_mmax C.1 C.2.1 (Y.sz C) C.2.2.2.1 (hts _ (hq _ List.mem_cons_self)) (hts _ (hq _ (List.mem_cons_of_mem _ List.mem_cons_self))) (hts _ (hq _ (List.mem_cons_of_mem _ (List.mem_cons_of_mem _ List.mem_cons_self)))) (hts _ (pm_hGW pm_w_max rfl)) (by omega) (by omega) (by omega) (by omega) hdg ?_
        rw [show (if Int32.ofInt a < Int32.ofInt b then Int32.ofInt b else Int32.ofInt a) = Int32.ofInt (if a < b then b else a) by
          by_cases h9 : a < b
          · rw [if_pos h9, if_pos ((pm_lt har hbr).mpr h9)]
          · rw [if_neg h9, if_neg (fun q => h9 ((pm_lt har hbr).mp q))]]
        exact pm_k0 k (Y.stk (List.forall_mem_cons.mpr ⟨pm_in0 (by split <;> omega), fun u hu => Y.i (List.mem_cons_of_mem _ (List.mem_cons_of_mem _ hu))⟩))
      · rw [eH] at hq
        have hs := pm_sum E t gt
        have hbr : -2147483648 ≤ b ∧ b < 2147483648 := (Y.i List.mem_cons_self).1 rfl
        have har : -2147483648 ≤ a ∧ a < 2147483648 := (Y.i (List.mem_cons_of_mem _ List.mem_cons_self)).1 rfl
        have hmax := pm_mathS hl
        show W p l e R s m args below meth c H locs cells slots Q (F0 m pc Ls (.int (Int32.ofInt b) :: .int (Int32.ofInt a) :: t.map (pm_v E)))
        rw [hmax.2.1 eH] at hq
        refine va_mmin C.1 C.2.1 (Y.sz C) C.2.2.2.1 (hts _ (hq _ List.mem_cons_self)) (hts _ (hq _ (List.mem_cons_of_mem _ List.mem_cons_self))) (hts _ (hq _ (List.mem_cons_of_mem _ (List.mem_cons_of_mem _ List.mem_cons_self)))) (hts _ (pm_hGW pm_w_min rfl)) (by omega) (by omega) (by omega) (by omega) hdg ?_
        rw [show (if Int32.ofInt b < Int32.ofInt a then Int32.ofInt b else Int32.ofInt a) = Int32.ofInt (if b < a then b else a) by
          by_cases h9 : b < a
          · rw [if_pos h9, if_pos ((pm_lt hbr har).mpr h9)]
          · rw [if_neg h9, if_neg (fun q => h9 ((pm_lt hbr har).mp q))]]
        exact pm_k0 k (Y.stk (List.forall_mem_cons.mpr ⟨pm_in0 (by split <;> omega), fun u hu => Y.i (List.mem_cons_of_mem _ (List.mem_cons_of_mem _ hu))⟩))
      · rw [eH] at hq
        have hs := pm_sum E t gt
        have har : -2147483648 ≤ a ∧ a < 2147483648 := (Y.i List.mem_cons_self).1 rfl
        have hmax := pm_mathS hl
        show W p l e R s m args below meth c H locs cells slots Q (F0 m pc Ls (.int (Int32.ofInt a) :: t.map (pm_v E)))
        rw [hmax.2.2 eH] at hq
        refine va_mabs C.1 C.2.1 (Y.sz C) C.2.2.2.1 (hts _ (hq _ List.mem_cons_self)) (hts _ (hq _ (List.mem_cons_of_mem _ List.mem_cons_self))) (hts _ (hq _ (List.mem_cons_of_mem _ (List.mem_cons_of_mem _ List.mem_cons_self)))) (hts _ (pm_hGW pm_w_abs rfl)) (by omega) (by omega) (by omega) (by omega) hdg ?_
        rw [show (if 0 ≤ Int32.ofInt a then Int32.ofInt a else 0 - Int32.ofInt a) = Int32.ofInt (if 0 ≤ a then a else w32 (0 - a)) by
          by_cases h9 : 0 ≤ a
          · rw [if_pos h9, if_pos (show (0 : Int32) ≤ Int32.ofInt a from (pm_le (a := 0) (by omega) har).mpr h9)]
          · rw [if_neg h9, if_neg (show ¬ (0 : Int32) ≤ Int32.ofInt a from fun q => h9 ((pm_le (a := 0) (by omega) har).mp q))]
            exact pm_isub 0 a]
        exact pm_k0 k (Y.stk (List.forall_mem_cons.mpr ⟨pm_in0 (by split; exact har; exact w32_in _), fun u hu => Y.i (List.mem_cons_of_mem _ hu)⟩))
    · cases h
  · cases h
end PMB

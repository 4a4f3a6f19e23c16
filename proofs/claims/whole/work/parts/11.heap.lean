/-! fields, arrays, what is made -/
section PMH
variable {p : Program} {l : Launch} {e : Env} {R : Room} {s : State} {m : MethodId} {args : Array Value} {below : List Frame} {meth : Method} {c : Code} {H : Heap} {locs : List Loc} {cells slots : Nat} {Q : State → Prop}
variable {E : pm_E} {D : va_G} {cs : Nat → ClassId} {sc : Nat × (Nat → Int)} {me : pm_Me} {d pc len : Nat} {ls st t : List pm_V} {S : pm_S} {M : pm_M} {Ls : Array Slot} {q : Nat × List pm_V × List pm_V × pm_S × pm_M}
theorem pm_vref {a : Int} (h : 0 ≤ a) : pm_v E (2, a) = .ref (E.1 + a.toNat) := if_neg (by omega)
theorem pm_fit {cl k : Nat} {v : pm_V} (hc : cl < 13) (hk : k < pm_N cl) (h : pm_okF cl k v = true) : narrow (pm_ty cl k) (pm_v E v) = pm_v E v ∧ fits (pm_ty cl k) (pm_v E v) = true := by
  have hf := pm_fty_ok cl hc k hk
  unfold pm_fty at hf
  unfold pm_okF pm_ft at h
  generalize pm_fk cl k = f at hf h
  generalize pm_ty cl k = ty at hf
  obtain ⟨t, x⟩ := v
  simp only [Bool.and_eq_true, beq_iff_eq] at h
  obtain ⟨h1, h2⟩ := h
  split at hf
  · have e := of_decide_eq_true hf
    subst e
    rw [if_neg (by decide)] at h1
    subst h1
    exact ⟨rfl, rfl⟩
  · have e := of_decide_eq_true hf
    subst e
    rw [if_neg (by decide)] at h1
    subst h1
    exact ⟨rfl, rfl⟩
  · have e := of_decide_eq_true hf
    subst e
    rw [if_pos rfl] at h1
    subst h1
    simp only [bne_self_eq_false, Bool.false_or, Bool.or_eq_true, beq_iff_eq] at h2
    rcases h2 with rfl | rfl
    · exact ⟨rfl, rfl⟩
    · exact ⟨rfl, rfl⟩
  · rename_i n0 n1 n5
    rw [if_neg n5] at h1
    subst h1
    have hr : pm_v E (t, x) = .null ∨ ∃ a, pm_v E (t, x) = .ref a := by
      match t, n0, n1 with
      | 2, _, _ =>
        show (if x < 0 then Value.null else Value.ref (E.1 + x.toNat)) = .null ∨ ∃ a, (if x < 0 then Value.null else Value.ref (E.1 + x.toNat)) = .ref a
        split
        · exact Or.inl rfl
        · exact Or.inr ⟨_, rfl⟩
      | 3, _, _ => exact Or.inr ⟨_, rfl⟩
      | 4, _, _ => exact Or.inr ⟨_, rfl⟩
      | 5, _, _ => exact Or.inr ⟨_, rfl⟩
      | 6, _, _ =>
        show va_rf E.2.2.2.2 = .null ∨ ∃ a, va_rf E.2.2.2.2 = .ref a
        cases E.2.2.2.2 with
        | none => exact Or.inl rfl
        | some a => exact Or.inr ⟨a, rfl⟩
      | n + 7, _, _ => exact Or.inr ⟨_, rfl⟩
    rcases hr with hr | ⟨a, hr⟩ <;> rw [hr] <;> split at hf <;> first | exact ⟨rfl, rfl⟩ | (cases hf)
theorem pm_hasS {a cl : Nat} (h : (S[a]?).map Prod.fst = some cl) : ∃ n, S[a]? = some (cl, n) := by
  cases hs : S[a]? with
  | none => rw [hs] at h; cases h
  | some q =>
    rw [hs] at h
    obtain ⟨c0, n⟩ := q
    cases h
    exact ⟨n, rfl⟩
theorem pm_Y.obj (Y : pm_Y E D cs s me S M ls st H locs Ls) {a cl n : Nat} (h : S[a]? = some (cl, n)) (hc : cl < 13) : t_OB (E.1 + a) (D.1 cl) (pm_N cl) (D.2 cl) H (fun j => pm_v E (pm_ft cl j, M a j)) := by
  have := Y.1.2 a cl n h
  unfold pm_cell at this
  rw [if_pos hc] at this
  exact this
theorem pm_Y.arr (Y : pm_Y E D cs s me S M ls st H locs Ls) {a cl n : Nat} (h : S[a]? = some (cl, n)) (h1 : ¬ cl < 13) (h2 : cl < 18) : H[E.1 + a]? = some (arrV (cs cl) n (fun j => pm_v E (pm_kt cl, M a j))) := by
  have := Y.1.2 a cl n h
  unfold pm_cell at this
  rw [if_neg h1, if_pos h2] at this
  exact this
theorem pm_Y.mem (Y : pm_Y E D cs s me S M ls st H locs Ls) {a cl n : Nat} (h : S[a]? = some (cl, n)) (j : Nat) : pm_in (pm_tg cl j, M a j) := Y.2.1 a cl n j h
theorem pm_arrS {a i : Int} {ok : Nat → Bool} {kk : Nat → Option pm_St} {r : pm_St} (h : pm_arr S a i ok kk = some r) : 0 ≤ a ∧ 0 ≤ i ∧ ∃ cl n, S[a.toNat]? = some (cl, n) ∧ ok cl = true ∧ i.toNat < n ∧ kk cl = some r := by
  unfold pm_arr at h
  split at h
  · rename_i g
    split at h
    · split at h
      · rename_i g2
        exact ⟨g.1, g.2, _, _, ‹_›, g2.1, g2.2, h⟩
      · cases h
    · cases h
  · cases h
theorem pm_Y.wr (Y : pm_Y E D cs s me S M ls st H locs Ls) {a cl n i : Nat} {v : Int} (h : S[a]? = some (cl, n)) (hv : pm_in (pm_tg cl i, v)) {H' : Heap} {j : Nat} (hz : H'.size = H.size) (hq : ∀ q, q ≠ E.1 + a → H'[q]? = H[q]?) (hc : pm_cell E D cs H' a cl n (pm_up M a i v a)) (ht : ∀ v ∈ t, pm_in v) : pm_Y E D cs s me S (pm_up M a i v) ls t H' (locs ++ [⟨E.1 + a, j⟩]) Ls :=
  ⟨Y.1.put h hz hq hc (fun b hb => pm_up_ne hb), Y.2.1.put h hv, Y.2.2.1.put hz hq (Nat.le_add_right _ _), Y.2.2.2.1, Y.2.2.2.2.1, Y.2.2.2.2.2.1, ht⟩
theorem pm_arrU {cA : ClassId} {n a i kt : Nat} {v : Int} : arrV cA n (updV (fun j => pm_v E (kt, M a j)) i (pm_v E (kt, v))) = arrV cA n (fun j => pm_v E (kt, pm_up M a i v a j)) := by
  refine congrArg (arrV cA n) (funext fun j => ?_)
  show (if j = i then _ else _) = pm_v E (kt, if a = a ∧ j = i then v else M a j)
  by_cases hj : j = i
  · rw [if_pos hj, if_pos ⟨rfl, hj⟩]
  · rw [if_neg hj, if_neg (fun q => hj q.2)]
theorem pm_ge {P : Prop} {n : Nat} (h : ¬ n < 13) (h2 : 13 ≤ n → P) : P := h2 (by omega)
theorem pi_getfield {j : Nat} (C : pm_C E D cs sc p R s m args meth c me d) (hdg : decode me.2.1 pc = .ok (.getfield j, len)) (h : pm_ins sc me pc ls st S M len (.getfield j) = some (.inl q)) (Y : pm_Y E D cs s me S M ls st H locs Ls) (k : pm_k E D cs p l e R s m args below meth c me Q cells slots S q) : W p l e R s m args below meth c H locs cells slots Q (F0 m pc Ls (st.map (pm_v E))) := by
  simp only [pm_ins] at h
  split at h
  · rename_i a t
    split at h
    · rename_i g
      obtain ⟨rfl, ga⟩ := g
      split at h
      · rename_i cl kf hf
        split at h
        · rename_i hS
          cases pm_nxE h
          obtain ⟨hc13, hkN, hlink⟩ := pm_fldS hf
          obtain ⟨n, hSa⟩ := pm_hasS hS
          obtain ⟨cell, q1, q2, q3, q4⟩ := Y.obj hSa hc13
          obtain ⟨hSl, hfc, kC, hkC, hkind⟩ := C.2.2.2.2.2.1.1 cl hc13
          obtain ⟨cf, kf', fi, f, hi, hsl⟩ := hSl kf hkN
          have hin := Y.mem hSa kf
          unfold pm_tg at hin
          rw [if_pos hc13] at hin
          rw [List.map_cons, pm_vref ga]
          exact W.getf C.1 C.2.1 C.2.2.2.1 (C.2.2.2.2.1 _ hlink) hi (u_facts hfc hkC (u_lays C.2.2.2.2.1 (pm_lays hc13) hkN) hi).1 q1 (by rw [q3]; exact fun h => by cases h) (v := pm_v E (pm_ft cl kf, M a.toNat kf)) (by rw [hsl]; exact q4 kf hkN) rfl rfl hdg (pm_k0 k (Y.stk (List.forall_mem_cons.mpr ⟨hin, fun u hu => Y.i (List.mem_cons_of_mem _ hu)⟩)))
        · cases h
      · cases h
    · cases h
  · rename_i a t
    split at h
    · rename_i g
      obtain ⟨rfl, ga, gb⟩ := g
      obtain ⟨h1, h2, h3, h4⟩ := C.2.2.2.2.2.1.2.2.2.2.1.1.1 a.toNat (by omega)
      split at h
      · rename_i hz
        have hl := pm_sfS hz
        rw [if_pos rfl] at hl
        cases pm_nxE h
        exact vk_getf C.1 C.2.1 h3 Y.2.2.1 C.2.2.2.1 (C.2.2.2.2.1 _ hl) (fun _ h9 => h9) hdg (pm_k0 k (Y.stk (List.forall_mem_cons.mpr ⟨pm_inx (by decide) (by decide), fun u hu => Y.i (List.mem_cons_of_mem _ hu)⟩)))
      · rename_i z hz0 hz
        have hl := pm_sfS hz
        rw [if_neg (fun e => hz0 (by rw [← e]))] at hl
        cases pm_nxE h
        exact vk_getf C.1 C.2.1 h2 Y.2.2.1 C.2.2.2.1 (C.2.2.2.2.1 _ hl) (fun _ h9 => h9) hdg (pm_k0 k (Y.stk (List.forall_mem_cons.mpr ⟨pm_in0 (by omega), fun u hu => Y.i (List.mem_cons_of_mem _ hu)⟩)))
      · cases h
    · cases h
  · cases h
theorem pm_decl : ∀ cl, cl < 13 → ∀ k, k < pm_N cl → (pm_T cl k).1 = pm_own cl := by decide +kernel
theorem pi_putfield {j : Nat} (C : pm_C E D cs sc p R s m args meth c me d) (hdg : decode me.2.1 pc = .ok (.putfield j, len)) (h : pm_ins sc me pc ls st S M len (.putfield j) = some (.inl q)) (Y : pm_Y E D cs s me S M ls st H locs Ls) (k : pm_k E D cs p l e R s m args below meth c me Q cells slots S q) : W p l e R s m args below meth c H locs cells slots Q (F0 m pc Ls (st.map (pm_v E))) := by
  simp only [pm_ins] at h
  split at h
  · rename_i v a t
    split at h
    · rename_i g
      obtain ⟨rfl, ga⟩ := g
      split at h
      · rename_i cl kf hf
        split at h
        · rename_i hS
          obtain ⟨hS, hok, hfi⟩ := hS
          cases pm_nxE h
          obtain ⟨hc13, hkN, hlink⟩ := pm_fldS hf
          obtain ⟨n, hSa⟩ := pm_hasS hS
          obtain ⟨cell, q1, q2, q3, q4⟩ := Y.obj hSa hc13
          have hKc := C.2.2.2.2.2.1.1 cl hc13
          obtain ⟨hSl, hfc, kC, hkC, hkind⟩ := hKc
          obtain ⟨cf, kf', fi, f, hi, hsl⟩ := hSl kf hkN
          obtain ⟨hn, hfit⟩ := pm_fit (E := E) hc13 hkN hok
          have hts := C.2.2.2.2.1
          have hap : ∀ x y, x < pm_N cl → y < pm_N cl → x ≠ y → (D.2 cl) x ≠ (D.2 cl) y := by
            intro x y hx hy hne
            obtain ⟨_, _, _, fa, hia, ea⟩ := hSl x hx
            obtain ⟨_, _, _, fb, hib, eb⟩ := hSl y hy
            rw [← ea, ← eb]
            refine u_apart (u_lays hts (pm_lays hc13) hx) (u_lays hts (pm_lays hc13) hy) hia hib ?_
            rw [(State.fieldFound?_type hia (pm_tyk hc13 x hx)).1, (State.fieldFound?_type hib (pm_tyk hc13 y hy)).1]
            exact pm_nmk hc13 x hx y hy hne
          have hlay := hts _ (pm_lays hc13 _ (u_in_lay hkN))
          unfold u_lay at hlay
          have hst := (u_facts hfc hkC (u_lays hts (pm_lays hc13) hkN) hi).1
          have hvt : v.1 = pm_ft cl kf := by
            unfold pm_okF at hok
            simp only [Bool.and_eq_true, beq_iff_eq] at hok
            exact hok.1
          have hvin : pm_in (pm_tg cl kf, v.2) := by
            unfold pm_tg
            rw [if_pos hc13, ← hvt]
            exact Y.i List.mem_cons_self
          have fin : ∀ H' : Heap, H'[E.1 + a.toNat]? = some (cell.setSlot f.slot (pm_v E v)) → H'.size = H.size → (∀ q, q ≠ E.1 + a.toNat → H'[q]? = H[q]?) → W p l e R s m args below meth c H' (locs ++ [⟨E.1 + a.toNat, f.slot⟩]) cells slots Q (F0 m (pc + 3) Ls (t.map (pm_v E))) := by
            intro H' e1 e2 e3
            rw [hsl] at e1
            refine pm_k0 k (Y.wr hSa hvin e2 e3 ?_ (fun u hu => Y.i (List.mem_cons_of_mem _ (List.mem_cons_of_mem _ hu))))
            unfold pm_cell
            rw [if_pos hc13]
            refine t_OB.to (V := updV (fun j => pm_v E (pm_ft cl j, M a.toNat j)) kf (pm_v E v)) ⟨_, e1, q2, q3, t_set q4 hap hkN _⟩ (fun x _ => ?_)
            show (if x = kf then _ else _) = pm_v E (pm_ft cl x, if a.toNat = a.toNat ∧ x = kf then v.2 else M a.toNat x)
            by_cases hx : x = kf
            · rw [if_pos hx, if_pos ⟨rfl, hx⟩, hx, ← hvt]
            · rw [if_neg hx, if_neg (fun q => hx q.2)]
          rw [List.map_cons, List.map_cons, pm_vref ga]
          by_cases hb : (pm_T cl kf).2.2.2 = true
          · rw [if_pos hb] at hlay
            have hcf : m.cls = cf := by
              obtain ⟨_, _, c', _, _, _, -, -, hf', -, -, -, hown2, -⟩ := Cond.laysFinal_spec hlay
              have e1 : c' = cf := by have := hi.symm.trans hf'; simp at this; exact this.1.symm
              have hd : (pm_T cl kf).1 = pm_own cl := pm_decl cl hc13 kf hkN
              rw [hd] at hown2
              have := C.2.2.2.1
              rw [(hfi hb).2] at this
              rw [← e1]; exact Option.some.inj (this.symm.trans hown2)
            have h6 := u_fits hfc hkC hkind (Or.inr hlay) hi (pm_tyk hc13 kf hkN) hn hfit
            exact W.putFinK C.1 C.2.1 C.2.2.2.1 (hts _ hlink) hi hst hcf (C.2.2.2.2.2.2.1 (hfi hb).1) (by rw [q2]; exact h6) q1 q3 (by rw [hsl]; exact k2_hasslot (q4 kf hkN)) rfl rfl hdg fin
          · rw [if_neg hb] at hlay
            have h6 := u_store hfc hkC hkind hlay hi (pm_tyk hc13 kf hkN) hn hfit
            exact W.putK C.1 C.2.1 (f := f) ⟨C.2.2.2.1, hts _ hlink, ⟨_, _, _, hi⟩, hst⟩ (by rw [q2]; exact h6) q1 q3 (by rw [hsl]; exact k2_hasslot (q4 kf hkN)) rfl rfl hdg fin
        · cases h
      · cases h
    · cases h
  · cases h
theorem pm_txt_all : ∀ a, a < 10 → (pm_len.getD a 0 = (pm_txt a).length ∧ (pm_txt a).length < 20 ∧ ∀ j, j < (pm_txt a).length → ((pm_byt.getD a []).getD j 0 = Int32.ofInt ((pm_txt a).getD j 0) ∧ 0 ≤ (pm_txt a).getD j 0 ∧ (pm_txt a).getD j 0 < 128)) := by decide +kernel
theorem pm_txtS {a j : Nat} (ha : a < 10) (hj : j < (pm_txt a).length) : pm_len.getD a 0 = (pm_txt a).length ∧ (pm_byt.getD a []).getD j 0 = Int32.ofInt ((pm_txt a).getD j 0) ∧ -2147483648 ≤ (pm_txt a).getD j 0 ∧ (pm_txt a).getD j 0 < 2147483648 := by
  obtain ⟨h1, h2, h3⟩ := pm_txt_all a ha
  obtain ⟨h4, h5, h6⟩ := h3 j hj
  exact ⟨h1, h4, by omega, by omega⟩
theorem pi_iaload (C : pm_C E D cs sc p R s m args meth c me d) (hdg : decode me.2.1 pc = .ok (.iaload, len)) (h : pm_ins sc me pc ls st S M len (.iaload) = some (.inl q)) (Y : pm_Y E D cs s me S M ls st H locs Ls) (k : pm_k E D cs p l e R s m args below meth c me Q cells slots S q) : W p l e R s m args below meth c H locs cells slots Q (F0 m pc Ls (st.map (pm_v E))) := by
  simp only [pm_ins] at h
  split at h
  · rename_i i a t
    split at h
    · rename_i g
      subst g
      obtain ⟨ga, gi, cl, n, hSa, hok, hlt, h⟩ := pm_arrS h
      cases pm_nxE h
      have hir : -2147483648 ≤ i ∧ i < 2147483648 := (Y.i List.mem_cons_self).1 rfl
      have hin := Y.mem hSa i.toNat
      rw [List.map_cons, List.map_cons, pm_vref ga]
      have hst : ∀ u ∈ t, pm_in u := fun u hu => Y.i (List.mem_cons_of_mem _ (List.mem_cons_of_mem _ hu))
      have hcl : cl = 14 := by simpa using hok
      subst hcl
      exact W.iald (v := pm_v E (0, M a.toNat i.toNat)) C.1 C.2.1 (Y.arr hSa (by decide) (by decide)) ((C.2.2.2.2.2.1.2.1 14 (by decide) (by decide)).1 n _) (fun q => by cases q) (by rw [arrV_size]; exact pm_vin ⟨gi, hir.2⟩ hlt) (by rw [pm_clamp ⟨gi, hir.2⟩, arrV_read _ _ hlt]; rfl) rfl rfl hdg (pm_k0 k (Y.stk (List.forall_mem_cons.mpr ⟨hin, hst⟩)))
    · cases h
  · rename_i i z t
    split at h
    · rename_i g
      obtain ⟨rfl, gi, hlt⟩ := g
      cases pm_nxE h
      have hir : -2147483648 ≤ i ∧ i < 2147483648 := (Y.i List.mem_cons_self).1 rfl
      obtain ⟨hX, hb, hz, -, hxs⟩ := C.2.2.2.2.2.1.2.2.2.2.2.2
      have k1 := pm_k0 k (Y.stk (List.forall_mem_cons.mpr ⟨hxs i.toNat, fun u hu => Y.i (List.mem_cons_of_mem _ (List.mem_cons_of_mem _ hu))⟩))
      show W p l e R s m args below meth c H locs cells slots Q (F0 m pc Ls (.int (Int32.ofInt i) :: .ref E.2.1 :: t.map (pm_v E)))
      refine va_sld C.1 C.2.1 hX (by omega) (fun q => Nat.not_le.mpr hb q) Y.2.2.1 (pm_vin ⟨gi, hir.2⟩ hlt) hdg ?_
      rw [pm_clamp ⟨gi, hir.2⟩]
      exact k1
    · cases h
  · cases h
theorem pi_baload (C : pm_C E D cs sc p R s m args meth c me d) (hdg : decode me.2.1 pc = .ok (.baload, len)) (h : pm_ins sc me pc ls st S M len (.baload) = some (.inl q)) (Y : pm_Y E D cs s me S M ls st H locs Ls) (k : pm_k E D cs p l e R s m args below meth c me Q cells slots S q) : W p l e R s m args below meth c H locs cells slots Q (F0 m pc Ls (st.map (pm_v E))) := by
  simp only [pm_ins] at h
  split at h
  · rename_i i a t
    split at h
    · rename_i g
      subst g
      obtain ⟨ga, gi, cl, n, hSa, hok, hlt, h⟩ := pm_arrS h
      cases pm_nxE h
      have hir : -2147483648 ≤ i ∧ i < 2147483648 := (Y.i List.mem_cons_self).1 rfl
      have hin := Y.mem hSa i.toNat
      rw [List.map_cons, List.map_cons, pm_vref ga]
      have hst : ∀ u ∈ t, pm_in u := fun u hu => Y.i (List.mem_cons_of_mem _ (List.mem_cons_of_mem _ hu))
      have hcl : cl = 13 ∨ cl = 16 := by simpa using hok
      rcases hcl with rfl | rfl
      · exact W.bald (v := pm_v E (0, M a.toNat i.toNat)) C.1 C.2.1 (Y.arr hSa (by decide) (by decide)) ((C.2.2.2.2.2.1.2.1 13 (by decide) (by decide)).1 n _) (fun q => by cases q) (by rw [arrV_size]; exact pm_vin ⟨gi, hir.2⟩ hlt) (by rw [pm_clamp ⟨gi, hir.2⟩, arrV_read _ _ hlt]; rfl) rfl rfl hdg (pm_k0 k (Y.stk (List.forall_mem_cons.mpr ⟨hin, hst⟩)))
      · exact W.zald (v := pm_v E (0, M a.toNat i.toNat)) C.1 C.2.1 (Y.arr hSa (by decide) (by decide)) ((C.2.2.2.2.2.1.2.1 16 (by decide) (by decide)).1 n _) (fun q => by cases q) (by rw [arrV_size]; exact pm_vin ⟨gi, hir.2⟩ hlt) (by rw [pm_clamp ⟨gi, hir.2⟩, arrV_read _ _ hlt]; rfl) rfl rfl hdg (pm_k0 k (Y.stk (List.forall_mem_cons.mpr ⟨hin, hst⟩)))
    · cases h
  · rename_i i a t
    split at h
    · rename_i g
      obtain ⟨rfl, ga, gb, gi, hlt⟩ := g
      cases pm_nxE h
      obtain ⟨h1, h2, h3, h4⟩ := C.2.2.2.2.2.1.2.2.2.2.1.1.1 a.toNat (by omega)
      have hir : -2147483648 ≤ i ∧ i < 2147483648 := (Y.i List.mem_cons_self).1 rfl
      obtain ⟨e1, e2, e3⟩ := pm_txtS (a := a.toNat) (by omega) hlt
      refine va_tb (v := .int (Int32.ofInt ((pm_txt a.toNat).getD i.toNat 0))) C.1 C.2.1 h4 Y.2.2.1 (by rw [e1]; exact pm_vin ⟨gi, hir.2⟩ hlt) (by rw [pm_clamp ⟨gi, hir.2⟩]; exact congrArg Value.int e2) hdg ?_
      exact pm_k0 k (Y.stk (List.forall_mem_cons.mpr ⟨pm_in0 e3, fun u hu => Y.i (List.mem_cons_of_mem _ (List.mem_cons_of_mem _ hu))⟩))
    · cases h
  · cases h
theorem pi_laload (C : pm_C E D cs sc p R s m args meth c me d) (hdg : decode me.2.1 pc = .ok (.laload, len)) (h : pm_ins sc me pc ls st S M len (.laload) = some (.inl q)) (Y : pm_Y E D cs s me S M ls st H locs Ls) (k : pm_k E D cs p l e R s m args below meth c me Q cells slots S q) : W p l e R s m args below meth c H locs cells slots Q (F0 m pc Ls (st.map (pm_v E))) := by
  simp only [pm_ins] at h
  split at h
  · rename_i i a t
    split at h
    · rename_i g
      subst g
      obtain ⟨ga, gi, cl, n, hSa, hok, hlt, h⟩ := pm_arrS h
      cases pm_nxE h
      have hir : -2147483648 ≤ i ∧ i < 2147483648 := (Y.i List.mem_cons_self).1 rfl
      have hin := Y.mem hSa i.toNat
      rw [List.map_cons, List.map_cons, pm_vref ga]
      have hst : ∀ u ∈ t, pm_in u := fun u hu => Y.i (List.mem_cons_of_mem _ (List.mem_cons_of_mem _ hu))
      have hcl : cl = 15 := by simpa using hok
      subst hcl
      exact W.lald (v := pm_v E (1, M a.toNat i.toNat)) C.1 C.2.1 (Y.arr hSa (by decide) (by decide)) ((C.2.2.2.2.2.1.2.1 15 (by decide) (by decide)).1 n _) (fun q => by cases q) (by rw [arrV_size]; exact pm_vin ⟨gi, hir.2⟩ hlt) (by rw [pm_clamp ⟨gi, hir.2⟩, arrV_read _ _ hlt]; rfl) rfl rfl hdg (pm_k0 k (Y.stk (List.forall_mem_cons.mpr ⟨hin, hst⟩)))
    · cases h
  · cases h
theorem pi_aaload (C : pm_C E D cs sc p R s m args meth c me d) (hdg : decode me.2.1 pc = .ok (.aaload, len)) (h : pm_ins sc me pc ls st S M len (.aaload) = some (.inl q)) (Y : pm_Y E D cs s me S M ls st H locs Ls) (k : pm_k E D cs p l e R s m args below meth c me Q cells slots S q) : W p l e R s m args below meth c H locs cells slots Q (F0 m pc Ls (st.map (pm_v E))) := by
  simp only [pm_ins] at h
  split at h
  · rename_i i a t
    split at h
    · rename_i g
      subst g
      obtain ⟨ga, gi, cl, n, hSa, hok, hlt, h⟩ := pm_arrS h
      cases pm_nxE h
      have hir : -2147483648 ≤ i ∧ i < 2147483648 := (Y.i List.mem_cons_self).1 rfl
      have hin := Y.mem hSa i.toNat
      rw [List.map_cons, List.map_cons, pm_vref ga]
      have hst : ∀ u ∈ t, pm_in u := fun u hu => Y.i (List.mem_cons_of_mem _ (List.mem_cons_of_mem _ hu))
      have hcl : cl = 17 := by simpa using hok
      subst hcl
      exact W.aald (v := pm_v E (2, M a.toNat i.toNat)) C.1 C.2.1 (Y.arr hSa (by decide) (by decide)) ((C.2.2.2.2.2.1.2.1 17 (by decide) (by decide)).1 n _) rfl (fun q => by cases q) (by rw [arrV_size]; exact pm_vin ⟨gi, hir.2⟩ hlt) (by rw [pm_clamp ⟨gi, hir.2⟩, arrV_read _ _ hlt]; rfl) rfl rfl hdg (pm_k0 k (Y.stk (List.forall_mem_cons.mpr ⟨hin, hst⟩)))
    · cases h
  · cases h
theorem pi_iastore (C : pm_C E D cs sc p R s m args meth c me d) (hdg : decode me.2.1 pc = .ok (.iastore, len)) (h : pm_ins sc me pc ls st S M len (.iastore) = some (.inl q)) (Y : pm_Y E D cs s me S M ls st H locs Ls) (k : pm_k E D cs p l e R s m args below meth c me Q cells slots S q) : W p l e R s m args below meth c H locs cells slots Q (F0 m pc Ls (st.map (pm_v E))) := by
  simp only [pm_ins] at h
  split at h
  · rename_i v i a t
    split at h
    · rename_i g
      subst g
      obtain ⟨ga, gi, cl, n, hSa, hok, hlt, h⟩ := pm_arrS h
      cases pm_nxE h
      have hir : -2147483648 ≤ i ∧ i < 2147483648 := (Y.i (List.mem_cons_of_mem _ List.mem_cons_self)).1 rfl
      have hst : ∀ u ∈ t, pm_in u := fun u hu => Y.i (List.mem_cons_of_mem _ (List.mem_cons_of_mem _ (List.mem_cons_of_mem _ hu)))
      rw [List.map_cons, List.map_cons, List.map_cons, pm_vref ga]
      have hcl : cl = 14 := by simpa using hok
      subst hcl
      refine W.iast C.1 C.2.1 (Y.arr hSa (by decide) (by decide)) ((C.2.2.2.2.2.1.2.1 14 (by decide) (by decide)).1 n _) (fun q => by cases q) (by rw [arrV_size]; exact pm_vin ⟨gi, hir.2⟩ hlt) rfl rfl hdg (fun H1 e1 e2 e3 => pm_k0 k (Y.wr hSa (Y.i List.mem_cons_self) e2 e3 ?_ hst))
      rw [pm_clamp ⟨gi, hir.2⟩, arrV_store] at e1
      unfold pm_cell
      rw [if_neg (by decide), if_pos (by decide), e1]
      exact congrArg some (pm_arrU (E := E) (M := M) (a := a.toNat) (i := i.toNat) (kt := pm_kt 14) (v := v))
    · cases h
  · cases h
theorem pi_bastore (C : pm_C E D cs sc p R s m args meth c me d) (hdg : decode me.2.1 pc = .ok (.bastore, len)) (h : pm_ins sc me pc ls st S M len (.bastore) = some (.inl q)) (Y : pm_Y E D cs s me S M ls st H locs Ls) (k : pm_k E D cs p l e R s m args below meth c me Q cells slots S q) : W p l e R s m args below meth c H locs cells slots Q (F0 m pc Ls (st.map (pm_v E))) := by
  simp only [pm_ins] at h
  split at h
  · rename_i v i a t
    split at h
    · rename_i g
      subst g
      obtain ⟨ga, gi, cl, n, hSa, hok, hlt, h⟩ := pm_arrS h
      cases pm_nxE h
      have hir : -2147483648 ≤ i ∧ i < 2147483648 := (Y.i (List.mem_cons_of_mem _ List.mem_cons_self)).1 rfl
      have hst : ∀ u ∈ t, pm_in u := fun u hu => Y.i (List.mem_cons_of_mem _ (List.mem_cons_of_mem _ (List.mem_cons_of_mem _ hu)))
      rw [List.map_cons, List.map_cons, List.map_cons, pm_vref ga]
      have h8 := w8_in v
      have hcl : cl = 13 ∨ (cl = 16 ∧ (v = 0 ∨ v = 1)) := by simpa using hok
      rcases hcl with rfl | ⟨rfl, hv⟩
      · have en : narrow .byte (.int (Int32.ofInt v)) = pm_v E (0, w8 v) := congrArg Value.int (pm_i2b v)
        refine W.bast C.1 C.2.1 (Y.arr hSa (by decide) (by decide)) ((C.2.2.2.2.2.1.2.1 13 (by decide) (by decide)).1 n _) (fun q => by cases q) (by rw [arrV_size]; exact pm_vin ⟨gi, hir.2⟩ hlt) rfl rfl hdg (fun H1 e1 e2 e3 => pm_k0 k (Y.wr hSa (pm_in0 ⟨by omega, by omega⟩) e2 e3 ?_ hst))
        rw [pm_clamp ⟨gi, hir.2⟩, arrV_store, en] at e1
        unfold pm_cell
        rw [if_neg (by decide), if_pos (by decide), e1]
        exact congrArg some (pm_arrU (E := E) (M := M) (a := a.toNat) (i := i.toNat) (kt := pm_kt 13) (v := w8 v))
      · have en : narrow .boolean (.int (Int32.ofInt v)) = pm_v E (0, w8 v) := by rcases hv with rfl | rfl <;> rfl
        refine W.zast C.1 C.2.1 (Y.arr hSa (by decide) (by decide)) ((C.2.2.2.2.2.1.2.1 16 (by decide) (by decide)).1 n _) (fun q => by cases q) (by rw [arrV_size]; exact pm_vin ⟨gi, hir.2⟩ hlt) rfl rfl hdg (fun H1 e1 e2 e3 => pm_k0 k (Y.wr hSa (pm_in0 ⟨by omega, by omega⟩) e2 e3 ?_ hst))
        rw [pm_clamp ⟨gi, hir.2⟩, arrV_store, en] at e1
        unfold pm_cell
        rw [if_neg (by decide), if_pos (by decide), e1]
        exact congrArg some (pm_arrU (E := E) (M := M) (a := a.toNat) (i := i.toNat) (kt := pm_kt 16) (v := w8 v))
    · cases h
  · cases h
theorem pi_lastore (C : pm_C E D cs sc p R s m args meth c me d) (hdg : decode me.2.1 pc = .ok (.lastore, len)) (h : pm_ins sc me pc ls st S M len (.lastore) = some (.inl q)) (Y : pm_Y E D cs s me S M ls st H locs Ls) (k : pm_k E D cs p l e R s m args below meth c me Q cells slots S q) : W p l e R s m args below meth c H locs cells slots Q (F0 m pc Ls (st.map (pm_v E))) := by
  simp only [pm_ins] at h
  split at h
  · rename_i v i a t
    split at h
    · rename_i g
      subst g
      obtain ⟨ga, gi, cl, n, hSa, hok, hlt, h⟩ := pm_arrS h
      cases pm_nxE h
      have hir : -2147483648 ≤ i ∧ i < 2147483648 := (Y.i (List.mem_cons_of_mem _ List.mem_cons_self)).1 rfl
      have hst : ∀ u ∈ t, pm_in u := fun u hu => Y.i (List.mem_cons_of_mem _ (List.mem_cons_of_mem _ (List.mem_cons_of_mem _ hu)))
      rw [List.map_cons, List.map_cons, List.map_cons, pm_vref ga]
      have hcl : cl = 15 := by simpa using hok
      subst hcl
      refine W.last C.1 C.2.1 (Y.arr hSa (by decide) (by decide)) ((C.2.2.2.2.2.1.2.1 15 (by decide) (by decide)).1 n _) (fun q => by cases q) (by rw [arrV_size]; exact pm_vin ⟨gi, hir.2⟩ hlt) rfl rfl hdg (fun H1 e1 e2 e3 => pm_k0 k (Y.wr hSa (Y.i List.mem_cons_self) e2 e3 ?_ hst))
      rw [pm_clamp ⟨gi, hir.2⟩, arrV_store] at e1
      unfold pm_cell
      rw [if_neg (by decide), if_pos (by decide), e1]
      exact congrArg some (pm_arrU (E := E) (M := M) (a := a.toNat) (i := i.toNat) (kt := pm_kt 15) (v := v))
    · cases h
  · cases h
theorem pi_arraylength (C : pm_C E D cs sc p R s m args meth c me d) (hdg : decode me.2.1 pc = .ok (.arraylength, len)) (h : pm_ins sc me pc ls st S M len (.arraylength) = some (.inl q)) (Y : pm_Y E D cs s me S M ls st H locs Ls) (k : pm_k E D cs p l e R s m args below meth c me Q cells slots S q) : W p l e R s m args below meth c H locs cells slots Q (F0 m pc Ls (st.map (pm_v E))) := by
  simp only [pm_ins] at h
  split at h
  · rename_i a t
    split at h
    · rename_i g
      obtain ⟨rfl, ga⟩ := g
      split at h
      · rename_i cl n hSa
        split at h
        · rename_i g2
          cases pm_nxE h
          rw [List.map_cons, pm_vref ga]
          refine W.alen (n := Int32.ofInt (n : Int)) C.1 C.2.1 (Y.arr hSa (by omega) (by omega)) ((C.2.2.2.2.2.1.2.1 cl (by omega) (by omega)).1 n _) (by rw [arrV_size]; apply pm_e32; exact nI_toInt g2.2.2) rfl rfl hdg ?_
          exact pm_k0 k (Y.stk (List.forall_mem_cons.mpr ⟨pm_in0 ⟨by omega, by omega⟩, fun u hu => Y.i (List.mem_cons_of_mem _ hu)⟩))
        · cases h
      · cases h
    · cases h
  · rename_i a t
    split at h
    · rename_i g
      obtain ⟨rfl, ga, gb⟩ := g
      cases pm_nxE h
      obtain ⟨h1, h2, h3, h4⟩ := C.2.2.2.2.2.1.2.2.2.2.1.1.1 a.toNat (by omega)
      obtain ⟨e1, e2, -⟩ := pm_txt_all a.toNat (by omega)
      refine va_tlen (v := Int32.ofInt ((pm_txt a.toNat).length : Int)) C.1 C.2.1 h4 Y.2.2.1 (by rw [e1]; exact pm_e32 (nI_toInt (by omega))) hdg ?_
      exact pm_k0 k (Y.stk (List.forall_mem_cons.mpr ⟨pm_in0 ⟨by omega, by omega⟩, fun u hu => Y.i (List.mem_cons_of_mem _ hu)⟩))
    · cases h
  · rename_i z t
    split at h
    · rename_i g
      obtain ⟨rfl, g2⟩ := g
      cases pm_nxE h
      obtain ⟨hX, hb, hz, -, hxs⟩ := C.2.2.2.2.2.1.2.2.2.2.2.2
      have k1 := pm_k0 k (Y.stk (List.forall_mem_cons.mpr ⟨pm_in0 (x := (sc.1 : Int)) ⟨by omega, by omega⟩, fun u hu => Y.i (List.mem_cons_of_mem _ hu)⟩))
      show W p l e R s m args below meth c H locs cells slots Q (F0 m pc Ls (.ref E.2.1 :: t.map (pm_v E)))
      refine va_slen C.1 C.2.1 hX (by omega) (fun q => Nat.not_le.mpr hb q) Y.2.2.1 hdg ?_
      rw [show Int32.ofNat sc.1 = Int32.ofInt (sc.1 : Int) from pm_e32 (nI_toInt g2)]
      exact k1
    · cases h
  · cases h
theorem pm_Y.nw (Y : pm_Y E D cs s me S M ls st H locs Ls) {cl n : Nat} {f : Nat → Int} (hf : ∀ j, pm_in (pm_tg cl j, f j)) {H' : Heap} (hz : H'.size = H.size + 1) (hq : ∀ q, q < H.size → H'[q]? = H[q]?) (hc : pm_cell E D cs H' S.length cl n f) (ht : ∀ v ∈ t, pm_in v) : pm_Y E D cs s me (S ++ [(cl, n)]) (pm_nw M S.length f) ls ((2, (S.length : Int)) :: t) H' locs Ls :=
  ⟨Y.1.new hz hq (by rw [pm_nw_eq]; exact hc) (fun b hb => pm_nw_ne (by omega)), Y.2.1.new hf, ⟨by rw [hz]; exact Nat.le_trans Y.2.2.1.1 (Nat.le_succ _), fun q h1 h2 => by rw [hq q (Nat.lt_of_lt_of_le h1 Y.2.2.1.1)]; exact Y.2.2.1.2.1 q h1 h2, Y.2.2.1.2.2⟩, Y.2.2.2.1, Y.2.2.2.2.1, Y.2.2.2.2.2.1, List.forall_mem_cons.mpr ⟨pm_inx (by decide) (by decide), ht⟩⟩
theorem pm_k1 {pc' : Nat} {ls' st' : List pm_V} {M' : pm_M} {cl n : Nat} (k : pm_k E D cs p l e R s m args below meth c me Q cells slots S (pc', ls', st', S ++ [(cl, n)], M')) {H' : Heap} {locs' : List Loc} {Ls' : Array Slot} (Y : pm_Y E D cs s me (S ++ [(cl, n)]) M' ls' st' H' locs' Ls') : W p l e R s m args below meth c H' locs' (cells + 1) (slots + n) Q (F0 m pc' Ls' (st'.map (pm_v E))) := by
  have h := k H' locs' Ls' Y
  have e1 : (S ++ [(cl, n)]).length - S.length = 1 := by rw [List.length_append]; simp
  have e2 : pm_sz (S ++ [(cl, n)]) - pm_sz S = n := by rw [pm_sz_app]; simp [pm_sz]
  simp only [e1, e2] at h
  exact h
theorem pm_room1 {cl n X Z : Nat} (h1 : cells + ((S ++ [(cl, n)]).length - S.length) ≤ X) (h2 : slots + (pm_sz (S ++ [(cl, n)]) - pm_sz S) ≤ Z) : cells + 1 ≤ X ∧ slots + n ≤ Z := by
  have e1 : (S ++ [(cl, n)]).length - S.length = 1 := by rw [List.length_append]; simp
  have e2 : pm_sz (S ++ [(cl, n)]) - pm_sz S = n := by rw [pm_sz_app]; simp [pm_sz]
  rw [e1] at h1
  rw [e2] at h2
  exact ⟨h1, h2⟩
theorem pm_arrK : Cond.arrayClass .byte ∈ pm_GW ∧ Cond.arrayClass .int ∈ pm_GW ∧ Cond.arrayClass .long ∈ pm_GW ∧ Cond.arrayClass .boolean ∈ pm_GW := ⟨pm_ckw pm_arr_ok (by simp), pm_ckw pm_arr_ok (by simp), pm_ckw pm_arr_ok (by simp), pm_ckw pm_arr_ok (by simp)⟩
theorem pm_vnew (Y : pm_Y E D cs s me S M ls st H locs Ls) : Value.ref H.size = pm_v E (2, (S.length : Int)) := by rw [pm_vref (by omega), Y.1.1]; rfl
theorem pi_newarray {ty : ArrayType} (C : pm_C E D cs sc p R s m args meth c me d) (hdg : decode me.2.1 pc = .ok (.newarray ty, len)) (h : pm_ins sc me pc ls st S M len (.newarray ty) = some (.inl q)) (Y : pm_Y E D cs s me S M ls st H locs Ls) (hrc : cells + (q.2.2.2.1.length - S.length) ≤ R.cells) (hrs : slots + (pm_sz q.2.2.2.1 - pm_sz S) ≤ R.slots) (k : pm_k E D cs p l e R s m args below meth c me Q cells slots S q) : W p l e R s m args below meth c H locs cells slots Q (F0 m pc Ls (st.map (pm_v E))) := by
  simp only [pm_ins] at h
  split at h
  · rename_i n t
    split at h
    · rename_i g
      obtain ⟨rfl, g1, g2⟩ := g
      have hnr : -2147483648 ≤ n ∧ n < 2147483648 := by omega
      have hst : ∀ u ∈ t, pm_in u := fun u hu => Y.i (List.mem_cons_of_mem _ hu)
      have hn0 : ¬ Int32.ofInt n < 0 := fun q => by have := (pm_lt (b := 0) hnr (by omega)).mp q; omega
      have hzn : ∀ _ : Nat, pm_in ((0 : Nat), (0 : Int)) := fun _ => pm_in0 (by omega)
      have hzl : ∀ _ : Nat, pm_in ((1 : Nat), (0 : Int)) := fun _ => pm_in1 (by omega)
      cases ty <;> simp only [] at h
      · cases pm_nxE h
        obtain ⟨r1, r2⟩ := pm_room1 hrc hrs
        show W p l e R s m args below meth c H locs cells slots Q (F0 m pc Ls (.int (Int32.ofInt n) :: t.map (pm_v E)))
        refine va_newaK (atype := .boolean) C.1 C.2.1 (C.2.2.2.2.1 _ pm_arrK.2.2.2) rfl hdg rfl hn0 (pm_clamp ⟨g1, hnr.2⟩) (by show n.toNat * _ ≤ _; simp only [newarray.typeOf, componentBytes]; omega) r1 r2 rfl (fun H' cA e1 e2 e3 e4 e5 => ?_)
        have hcA : cA = cs 16 := Option.some.inj (e5.symm.trans (C.2.2.2.2.2.1.2.1 16 (by decide) (by decide)).2)
        have k2 := pm_k1 k (Y.nw (cl := 16) (n := n.toNat) (t := t) (f := fun _ => 0) hzn e2 e3 (by unfold pm_cell; rw [if_neg (by decide), if_pos (by decide), ← Y.1.1, e1, hcA]; rfl) hst)
        rw [List.map_cons, ← pm_vnew Y] at k2
        exact k2
      · cases h
      · cases h
      · cases h
      · cases pm_nxE h
        obtain ⟨r1, r2⟩ := pm_room1 hrc hrs
        show W p l e R s m args below meth c H locs cells slots Q (F0 m pc Ls (.int (Int32.ofInt n) :: t.map (pm_v E)))
        refine va_newaK (atype := .byte) C.1 C.2.1 (C.2.2.2.2.1 _ pm_arrK.1) rfl hdg rfl hn0 (pm_clamp ⟨g1, hnr.2⟩) (by show n.toNat * _ ≤ _; simp only [newarray.typeOf, componentBytes]; omega) r1 r2 rfl (fun H' cA e1 e2 e3 e4 e5 => ?_)
        have hcA : cA = cs 13 := Option.some.inj (e5.symm.trans (C.2.2.2.2.2.1.2.1 13 (by decide) (by decide)).2)
        have k2 := pm_k1 k (Y.nw (cl := 13) (n := n.toNat) (t := t) (f := fun _ => 0) hzn e2 e3 (by unfold pm_cell; rw [if_neg (by decide), if_pos (by decide), ← Y.1.1, e1, hcA]; rfl) hst)
        rw [List.map_cons, ← pm_vnew Y] at k2
        exact k2
      · cases h
      · cases pm_nxE h
        obtain ⟨r1, r2⟩ := pm_room1 hrc hrs
        show W p l e R s m args below meth c H locs cells slots Q (F0 m pc Ls (.int (Int32.ofInt n) :: t.map (pm_v E)))
        refine va_newaK (atype := .int) C.1 C.2.1 (C.2.2.2.2.1 _ pm_arrK.2.1) rfl hdg rfl hn0 (pm_clamp ⟨g1, hnr.2⟩) (by show n.toNat * _ ≤ _; simp only [newarray.typeOf, componentBytes]; omega) r1 r2 rfl (fun H' cA e1 e2 e3 e4 e5 => ?_)
        have hcA : cA = cs 14 := Option.some.inj (e5.symm.trans (C.2.2.2.2.2.1.2.1 14 (by decide) (by decide)).2)
        have k2 := pm_k1 k (Y.nw (cl := 14) (n := n.toNat) (t := t) (f := fun _ => 0) hzn e2 e3 (by unfold pm_cell; rw [if_neg (by decide), if_pos (by decide), ← Y.1.1, e1, hcA]; rfl) hst)
        rw [List.map_cons, ← pm_vnew Y] at k2
        exact k2
      · cases pm_nxE h
        obtain ⟨r1, r2⟩ := pm_room1 hrc hrs
        show W p l e R s m args below meth c H locs cells slots Q (F0 m pc Ls (.int (Int32.ofInt n) :: t.map (pm_v E)))
        refine va_newaK (atype := .long) C.1 C.2.1 (C.2.2.2.2.1 _ pm_arrK.2.2.1) rfl hdg rfl hn0 (pm_clamp ⟨g1, hnr.2⟩) (by show n.toNat * _ ≤ _; simp only [newarray.typeOf, componentBytes]; omega) r1 r2 rfl (fun H' cA e1 e2 e3 e4 e5 => ?_)
        have hcA : cA = cs 15 := Option.some.inj (e5.symm.trans (C.2.2.2.2.2.1.2.1 15 (by decide) (by decide)).2)
        have k2 := pm_k1 k (Y.nw (cl := 15) (n := n.toNat) (t := t) (f := fun _ => 0) hzl e2 e3 (by unfold pm_cell; rw [if_neg (by decide), if_pos (by decide), ← Y.1.1, e1, hcA]; rfl) hst)
        rw [List.map_cons, ← pm_vnew Y] at k2
        exact k2
    · cases h
  · cases h
theorem pm_fk_ok : ∀ cl, cl < 13 → ∀ k, k < pm_N cl → (pm_fk cl k = 0 ∨ pm_fk cl k = 1 ∨ pm_fk cl k = 2 ∨ pm_fk cl k = 5) := by decide +kernel
theorem pm_dfl_in {cl : Nat} (hc : cl < 13) (j : Nat) : pm_in (pm_tg cl j, pm_dfl cl j) := by
  unfold pm_dfl
  split <;> exact ⟨fun _ => by omega, fun _ => by omega⟩
theorem pm_dfl_v {cl k : Nat} (hc : cl < 13) (hk : k < pm_N cl) : defaultValue (pm_ty cl k) = pm_v E (pm_ft cl k, pm_dfl cl k) := by
  have hf := pm_fty_ok cl hc k hk
  have hf2 := pm_fk_ok cl hc k hk
  unfold pm_fty at hf
  unfold pm_ft pm_dfl
  generalize pm_fk cl k = f at hf hf2
  generalize pm_ty cl k = ty at hf
  rcases hf2 with rfl | rfl | rfl | rfl
  · have e : ty = .int := of_decide_eq_true hf
    subst e
    rfl
  · have e : ty = .long := of_decide_eq_true hf
    subst e
    rfl
  · simp only [] at hf
    split at hf
    · rfl
    · rfl
    · cases hf
  · have e : ty = .boolean := of_decide_eq_true hf
    subst e
    rfl
theorem pi_new {j : Nat} (C : pm_C E D cs sc p R s m args meth c me d) (hdg : decode me.2.1 pc = .ok (.new j, len)) (h : pm_ins sc me pc ls st S M len (.new j) = some (.inl q)) (Y : pm_Y E D cs s me S M ls st H locs Ls) (hrc : cells + (q.2.2.2.1.length - S.length) ≤ R.cells) (hrs : slots + (pm_sz q.2.2.2.1 - pm_sz S) ≤ R.slots) (k : pm_k E D cs p l e R s m args below meth c me Q cells slots S q) : W p l e R s m args below meth c H locs cells slots Q (F0 m pc Ls (st.map (pm_v E))) := by
  simp only [pm_ins] at h
  split at h
  · rename_i g
    subst g
    split at h
    · rename_i cl hcl
      cases pm_nxE h
      obtain ⟨r1, r2⟩ := pm_room1 hrc hrs
      obtain ⟨hc13, w1, w2, w3⟩ := pm_clS hcl
      have hKc := C.2.2.2.2.2.1.1 cl hc13
      have hts := C.2.2.2.2.1
      refine W.newcK C.1 C.2.1 C.2.2.2.1 (hts _ w1) (hts _ w2) (hts _ w3) rfl hdg r1 r2 hKc.2.1 rfl (fun H' kC hkC e1 e2 e3 => ?_)
      have hb := u_born (pm_ty cl) hts (pm_lays hc13) hKc hkC e1 (pm_tyk hc13)
      have k2 := pm_k1 k (Y.nw (t := st) (f := pm_dfl cl) (pm_dfl_in hc13) e2 e3 (by
        unfold pm_cell
        rw [if_pos hc13, ← Y.1.1]
        exact hb.to (fun j hj => pm_dfl_v hc13 hj)) Y.2.2.2.2.2.2)
      rw [List.map_cons, ← pm_vnew Y] at k2
      exact k2
    · split at h <;> cases h
  · cases h
theorem pm_sz_rep (n : Nat) (q : Nat × Nat) : pm_sz (List.replicate n q) = n * q.2 := by
  induction n with
  | zero => simp [pm_sz]
  | succ n ih => rw [List.replicate_succ, pm_sz, ih, Nat.succ_mul]; omega
theorem pm_arrC {cA : ClassId} {n : Nat} {f g : Nat → Value} (h : ∀ j, j < n → f j = g j) : arrV cA n f = arrV cA n g := by
  unfold arrV
  congr 1
  apply congrArg
  funext j
  exact h j.val j.isLt
theorem pm_grdS {o j : Nat} (h : (pm_grd.find? (fun e => e.1 == o && e.2.1 == j)).isSome = true) : Cond.classLink (pm_own o) j ("[" ++ (FieldType.array FieldType.int).toString) ∈ pm_GW := by
  cases he : pm_grd.find? (fun e => e.1 == o && e.2.1 == j) with
  | none => rw [he] at h; cases h
  | some e =>
    have hm := List.mem_of_find?_eq_some he
    have hp := List.find?_some he
    simp only [Bool.and_eq_true, beq_iff_eq] at hp
    have hk := List.all_eq_true.mp pm_grd_ok e hm
    have := pm_ckw hk (List.mem_singleton.mpr rfl)
    rw [hp.1, hp.2] at this
    exact this
theorem pi_multianewarray {j dims : Nat} (C : pm_C E D cs sc p R s m args meth c me d) (hdg : decode me.2.1 pc = .ok (.multianewarray j dims, len)) (h : pm_ins sc me pc ls st S M len (.multianewarray j dims) = some (.inl q)) (Y : pm_Y E D cs s me S M ls st H locs Ls) (hrc : cells + (q.2.2.2.1.length - S.length) ≤ R.cells) (hrs : slots + (pm_sz q.2.2.2.1 - pm_sz S) ≤ R.slots) (k : pm_k E D cs p l e R s m args below meth c me Q cells slots S q) : W p l e R s m args below meth c H locs cells slots Q (F0 m pc Ls (st.map (pm_v E))) := by
  simp only [pm_ins] at h
  split at h
  · rename_i kk n t
    split at h
    · rename_i g
      obtain ⟨rfl, rfl, gk, gk2, gn, gn2, gg⟩ := g
      cases pm_nxE h
      have hkr : -2147483648 ≤ kk ∧ kk < 2147483648 := by omega
      have hnr : -2147483648 ≤ n ∧ n < 2147483648 := by omega
      have hts := C.2.2.2.2.1
      have hover : (Cond.arrayOver (.array .int)).before args s = true := over_moved (Vm.Alike.refl _) C.2.2.2.2.2.1.2.2.1.2.2.1
      have hk0 : ¬ Int32.ofInt kk < 0 := fun q => by have := (pm_lt (b := 0) hkr (by omega)).mp q; omega
      have hn0 : ¬ Int32.ofInt n < 0 := fun q => by have := (pm_lt (b := 0) hnr (by omega)).mp q; omega
      have ek : (Int32.ofInt kk).toNatClampNeg = kk.toNat := pm_clamp ⟨gk, hkr.2⟩
      have en : (Int32.ofInt n).toNatClampNeg = n.toNat := pm_clamp ⟨gn, hnr.2⟩
      have el : (S ++ (17, n.toNat) :: List.replicate n.toNat (14, kk.toNat)).length - S.length = 1 + n.toNat := by rw [List.length_append, List.length_cons, List.length_replicate]; omega
      have es : pm_sz (S ++ (17, n.toNat) :: List.replicate n.toNat (14, kk.toNat)) - pm_sz S = n.toNat + n.toNat * kk.toNat := by rw [pm_sz_app, pm_sz, pm_sz_rep]; show pm_sz S + (n.toNat + n.toNat * kk.toNat) - pm_sz S = _; omega
      simp only [el] at hrc
      simp only [es] at hrs
      show W p l e R s m args below meth c H locs cells slots Q (F0 m pc Ls (.int (Int32.ofInt kk) :: .int (Int32.ofInt n) :: t.map (pm_v E)))
      intro T hT X
      obtain ⟨vm₁, cA, comp, hW, fA, fC, hO, hI, X', step⟩ := X.multianewarray2F C.1 C.2.2.2.1 (hts _ (pm_grdS gg)) hover (hts _ pm_arrK.2.1) (g := F0 m pc Ls (.int (Int32.ofInt kk) :: .int (Int32.ofInt n) :: t.map (pm_v E))) rfl (by rw [C.2.1]; exact hdg) rfl hn0 hk0 (by rw [en]; omega) (by rw [ek]; simp only [componentBytes]; omega) (by rw [ek]; omega) rfl rfl (by rw [en]; exact hrc) (by rw [en, ek]; exact hrs)
      simp only [en, ek] at X' step
      generalize hF : Jvm.Free.Multi.fill (T.setVm vm₁) cA comp n.toNat kk.toNat (defaultValue .int) n.toNat = F at X' step
      have hTh : (T.setVm vm₁).heap = H := hT
      obtain ⟨f1, f2, -, -⟩ := Jvm.Free.Multi.fill_facts (T.setVm vm₁) cA comp n.toNat kk.toNat (defaultValue .int) n.toNat
      rw [hF, hTh] at f1 f2
      have hold : ∀ x : Nat, x < H.size → F.heap[x]? = H[x]? := fun x hx => by
        have := Jvm.Free.Multi.fill_old (T.setVm vm₁) cA comp n.toNat kk.toNat (defaultValue .int) (a := x) (by rw [hTh]; exact hx) n.toNat
        rw [hF, hTh] at this
        exact this
      have hrow : ∀ j : Nat, j < n.toNat → F.heap[H.size + 1 + j]? = some (arrV comp kk.toNat (fun _ => .int 0)) := fun j hj => by
        have := Jvm.Free.Multi.fill_inner (T.setVm vm₁) cA comp n.toNat kk.toNat (defaultValue .int) n.toNat j hj
        rw [hF, hTh] at this
        rw [this, ← arrV_new]
        rfl
      have e17 : cA = cs 17 := Option.some.inj (fA.symm.trans (C.2.2.2.2.2.1.2.1 17 (by decide) (by decide)).2)
      have e14 : comp = cs 14 := Option.some.inj (fC.symm.trans (C.2.2.2.2.2.1.2.1 14 (by decide) (by decide)).2)
      rw [vr_outer] at f2
      have hz := Y.1.1
      have hcases : ∀ k0 c0 n0, (S ++ (17, n.toNat) :: List.replicate n.toNat (14, kk.toNat))[k0]? = some (c0, n0) → (k0 < S.length ∧ S[k0]? = some (c0, n0)) ∨ (k0 = S.length ∧ c0 = 17 ∧ n0 = n.toNat) ∨ ∃ i, k0 = S.length + 1 + i ∧ i < n.toNat ∧ c0 = 14 ∧ n0 = kk.toNat := by
        intro k0 c0 n0 hk
        by_cases e1 : k0 < S.length
        · rw [List.getElem?_append_left e1] at hk
          exact Or.inl ⟨e1, hk⟩
        · rw [List.getElem?_append_right (by omega)] at hk
          by_cases e2 : k0 = S.length
          · subst e2
            rw [Nat.sub_self, List.getElem?_cons_zero] at hk
            cases hk
            exact Or.inr (Or.inl ⟨rfl, rfl, rfl⟩)
          · obtain ⟨i, hi⟩ : ∃ i, k0 - S.length = i + 1 := ⟨k0 - S.length - 1, by omega⟩
            rw [hi, List.getElem?_cons_succ, List.getElem?_replicate] at hk
            split at hk
            · cases hk
              exact Or.inr (Or.inr ⟨i, by omega, ‹_›, rfl, rfl⟩)
            · cases hk
      have Y' : pm_Y E D cs s me (S ++ (17, n.toNat) :: List.replicate n.toNat (14, kk.toNat)) (fun b i => if b < S.length then M b i else if b = S.length then (S.length : Int) + 1 + i else 0) ls ((2, (S.length : Int)) :: t) F.heap locs Ls := by
        refine ⟨⟨by rw [f1, hz, List.length_append, List.length_cons, List.length_replicate]; omega, fun k0 c0 n0 hk => ?_⟩, fun k0 c0 n0 j hk => ?_, ⟨by rw [f1]; have := Y.2.2.1.1; omega, fun q h1 h2 => by rw [hold q (Nat.lt_of_lt_of_le h1 Y.2.2.1.1)]; exact Y.2.2.1.2.1 q h1 h2, Y.2.2.1.2.2⟩, Y.2.2.2.1, Y.2.2.2.2.1, Y.2.2.2.2.2.1, List.forall_mem_cons.mpr ⟨pm_inx (by decide) (by decide), fun u hu => Y.i (List.mem_cons_of_mem _ (List.mem_cons_of_mem _ hu))⟩⟩
        · rcases hcases k0 c0 n0 hk with ⟨h1, h2⟩ | ⟨rfl, rfl, rfl⟩ | ⟨i, rfl, hi, rfl, rfl⟩
          · exact (Y.1.2 k0 c0 n0 h2).kept (hold _ (by omega)) (funext fun i => (if_pos h1).symm)
          · unfold pm_cell
            rw [if_neg (by decide), if_pos (by decide), ← hz, f2, e17]
            refine congrArg some (pm_arrC (fun j hj => ?_))
            rw [if_pos hj]
            show Value.ref (H.size + 1 + j) = pm_v E (2, if S.length < S.length then M S.length j else if S.length = S.length then (S.length : Int) + 1 + j else 0)
            rw [if_neg (Nat.lt_irrefl _), if_pos rfl]
            show Value.ref (H.size + 1 + j) = pm_v E (2, (S.length : Int) + 1 + j)
            rw [pm_vref (by omega), show E.1 + ((S.length : Int) + 1 + (j : Int)).toNat = H.size + 1 + j by omega]
          · unfold pm_cell
            rw [if_neg (by decide), if_pos (by decide), show E.1 + (S.length + 1 + i) = H.size + 1 + i by omega, hrow i hi, e14]
            refine congrArg some (pm_arrC (fun j hj => ?_))
            show Value.int 0 = pm_v E (0, if S.length + 1 + i < S.length then M (S.length + 1 + i) j else if S.length + 1 + i = S.length then (S.length : Int) + 1 + j else 0)
            rw [if_neg (by omega), if_neg (by omega)]
            rfl
        · rcases hcases k0 c0 n0 hk with ⟨h1, h2⟩ | ⟨rfl, rfl, rfl⟩ | ⟨i, rfl, hi, rfl, rfl⟩
          · show pm_in (_, if k0 < S.length then _ else _)
            rw [if_pos h1]
            exact Y.2.1 k0 c0 n0 j h2
          · exact pm_inx (t := 2) (by decide) (by decide)
          · show pm_in (0, if S.length + 1 + i < S.length then _ else if S.length + 1 + i = S.length then _ else 0)
            rw [if_neg (by omega), if_neg (by omega)]
            exact pm_in0 (by omega)
      have k2 := k F.heap locs Ls Y'
      simp only [el, es, List.map_cons] at k2
      rw [← pm_vnew Y] at k2
      obtain ⟨tt, a1, b1⟩ := k2 F rfl (by rw [← Nat.add_assoc, ← Nat.add_assoc]; exact X')
      refine ⟨tt, step tt ?_, b1⟩
      rw [hT]
      exact a1
    · cases h
  · cases h
end PMH

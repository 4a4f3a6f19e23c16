/-- the law's own guarded calls: what they are made of -/
def pm_GF (yl : MethodName) (cc : ByteArray) (j0 : Nat) (me2 : pm_Me) : Prop :=
  (decode cc 0 = .ok (.aload_n 3, 1) ∧ decode cc 1 = .ok (.iconst 0, 1) ∧ decode cc 2 = .ok (.aload_n 0, 1) ∧ decode cc 3 = .ok (.iload_n 1, 1) ∧ decode cc 4 = .ok (.iload_n 2, 1) ∧ decode cc 5 = .ok (.invokevirtual j0, 3) ∧ decode cc 8 = .ok (.i2l, 1) ∧ decode cc 9 = .ok (.lastore, 1) ∧ decode cc 10 = .ok (.goto 7, 3) ∧ decode cc 13 = .ok (.astore 4, 2) ∧ decode cc 15 = .ok (.iconst 1, 1) ∧ decode cc 16 = .ok (.ireturn, 1) ∧ decode cc 17 = .ok (.iconst 0, 1) ∧ decode cc 18 = .ok (.ireturn, 1)) ∧
  Cond.codeWith yl cc 5 (some .int) [(0, 10, 13, 13)] ∈ lw_tbl ∧ plainName yl.cls = true ∧ yl.cls = RL ∧ (parseMethodDescriptor yl.desc).map (fun d => d.parameters.length) = some 4 ∧ pm_lnk 13 j0 = some me2 ∧ me2.2.2.2.2.2.2 = 1 ∧ me2.2.2.1 = 11 ∧ me2.2.2.2.2.2.1 = 2
theorem pm_GFn : pm_GF yL_node cL_node 7 mX11_node := ⟨⟨dL_node_0, dL_node_1, dL_node_2, dL_node_3, dL_node_4, dL_node_5, dL_node_8, dL_node_9, dL_node_10, dL_node_13, dL_node_15, dL_node_16, dL_node_17, dL_node_18⟩, pm_w_node, by decide +kernel, rfl, by decide +kernel, rfl, rfl, rfl, rfl⟩
theorem pm_GFt : pm_GF yL_test cL_test 15 mX11_test := ⟨⟨dL_test_0, dL_test_1, dL_test_2, dL_test_3, dL_test_4, dL_test_5, dL_test_8, dL_test_9, dL_test_10, dL_test_13, dL_test_15, dL_test_16, dL_test_17, dL_test_18⟩, pm_w_test, by decide +kernel, rfl, by decide +kernel, rfl, rfl, rfl, rfl⟩
def pm_wl (yl : MethodName) (cc : ByteArray) : List Cond := Cond.codeWith yl cc 5 (some .int) [(0, 10, 13, 13)] :: pm_GW
section PMG
variable {E : pm_E} {D : va_G} {cs : Nat → ClassId} {sc : Nat × (Nat → Int)} {l : Launch} {n d : Nat}
/-- law.node, law.test: 0 and the answer laid down, or 1 -/
theorem pm_lawM (hl : l.stackTraces = false) (ih : pm_Sn E D cs sc l n) {yl : MethodName} {cc : ByteArray} {j0 : Nat} {me2 : pm_Me} (F : pm_GF yl cc j0 me2) {x p0 q0 o : Int} {S : pm_S} {M : pm_M} {r : Option pm_V} {S1 : pm_S} {M1 : pm_M} {b : Int} {M2 : pm_M}
    (hX : pm_X sc n (d - 2) me2 0 (pm_ent me2.2.2.2.1 [(2, x), (0, p0), (0, q0)]) [] S M = some (r, S1, M1)) (hlen : (pm_ent me2.2.2.2.1 [(2, x), (0, p0), (0, q0)]).length = me2.2.2.2.1) (hd : 20 ≤ d) (hx : 0 ≤ x) (ho : 0 ≤ o) (hSo : S[o.toNat]? = some (15, 1)) (hSx : (S[x.toNat]?).map Prod.fst = some 11) (hp : pm_in (0, p0)) (hq0 : pm_in (0, q0))
    (hS1 : S1[o.toNat]? = some (15, 1)) (hb : (r = some (7, 0) ∧ b = 1 ∧ M2 = M1) ∨ ∃ v, r = some (0, v) ∧ b = 0 ∧ M2 = pm_up M1 o.toNat 0 v) :
    Met l yl (pm_wl yl cc) (pm_rm (d - 1) (S1.length - S.length) (pm_sz S1 - pm_sz S)) (pm_Pc E D cs sc [(2, x), (0, p0), (0, q0), (2, o)] S M) (pm_Qc E D cs (some (0, b)) S1 M2) (S1.length - S.length) (pm_sz S1 - pm_sz S) (pm_A E) := by
  obtain ⟨⟨d0, d1, d2, d3, d4, d5, d8, d9, d10, d13, d15, d16, d17, d18⟩, hcw, hy, hcl, -, hlk, hh, h11, hn2⟩ := F
  refine va_MetW (cc := cc) (maxL := 5) (ret := some .int) hy rfl ?_
  intro p e s m args below meth c s₁ B hml hv
  obtain ⟨rfl, hR, hG, hK⟩ := hv
  have hts0 := atoms_spec (ws := pm_wl yl cc) B.pre
  have hts : ∀ w ∈ pm_GW, w.before _ s = true := fun w hw => hts0 w (List.mem_cons_of_mem _ hw)
  have hx1 := B.exec
  have hb1 := B.bytes
  have hr1 := B.returns
  have hlocks := B.notSynchronized
  have hown : s.vm.findClass RL = some m.cls := by rw [← hcl]; exact findClass_of_methodNamed B.named
  have htab := vx_table (x := yl) B (hts0 _ List.mem_cons_self)
  rw [lg_entry_eq]
  have hl0 := lv_entry (([(2, x), (0, p0), (0, q0), (2, o)] : List pm_V).map (pm_v E)) (n := 5) (by
    have := (pm_entL E [(2, x), (0, p0), (0, q0), (2, o)]).1
    rw [this]
    exact Nat.le_of_ble_eq_true rfl)
  generalize ((lg_sl (([(2, x), (0, p0), (0, q0), (2, o)] : List pm_V).map (pm_v E)) ++ List.replicate (5 - (lg_sl (([(2, x), (0, p0), (0, q0), (2, o)] : List pm_V).map (pm_v E))).length) Slot.unset).toArray) = Ls at hl0 ⊢
  have hl1 : lv_has Ls 5 [(0, .ref (E.1 + x.toNat)), (1, .int (Int32.ofInt p0)), (2, .int (Int32.ofInt q0)), (3, .ref (E.1 + o.toNat))] := by
    have e1 : lv_args 0 (([(2, x), (0, p0), (0, q0), (2, o)] : List pm_V).map (pm_v E)) = [(0, .ref (E.1 + x.toNat)), (1, .int (Int32.ofInt p0)), (2, .int (Int32.ofInt q0)), (3, .ref (E.1 + o.toNat))] := by
      rw [List.map_cons, List.map_cons, List.map_cons, List.map_cons, pm_vref hx, pm_vref ho]
      rfl
    rw [← e1]
    exact hl0
  have hS0 : va_S (pm_A E) s.heap s.heap [] := va_S.rf
  refine lv_aload_n hx1 hb1 d0 rfl (lv_at hl1 3 rfl) ?_
  refine lv_iconst (v := 0) hx1 hb1 d1 rfl ?_
  refine lv_aload_n hx1 hb1 d2 rfl (lv_at hl1 0 rfl) ?_
  refine lv_iload_n hx1 hb1 d3 rfl (lv_at hl1 1 rfl) ?_
  refine lv_iload_n hx1 hb1 d4 rfl (lv_at hl1 2 rfl) ?_
  obtain ⟨hq, hck, hcwd⟩ := pm_lnkS hlk
  obtain ⟨m1, m2, m3, m4, m5, m6, -⟩ := pm_okM hck (Or.inr (Or.inl hh))
  unfold pm_req at hq
  rw [hh] at hq
  have hM := pm_vmet (D := D) (cs := cs) (E := E) hl ih hX hlen (fun v hv => by
    simp only [List.mem_cons, List.not_mem_nil, or_false] at hv
    rcases hv with rfl | rfl | rfl
    · exact pm_inx (by decide) (by decide)
    · exact hp
    · exact hq0) (by omega) m4 m1 hh
  have hroom : (pm_rm (d - 2) (S1.length - S.length) (pm_sz S1 - pm_sz S)).frames + 1 ≤ (pm_rm (d - 1) (S1.length - S.length) (pm_sz S1 - pm_sz S)).frames ∧ 8 + (me2.2.2.2.1 + 11) + (pm_rm (d - 2) (S1.length - S.length) (pm_sz S1 - pm_sz S)).locals ≤ (pm_rm (d - 1) (S1.length - S.length) (pm_sz S1 - pm_sz S)).locals := by
    show d - 2 + 1 ≤ d - 1 ∧ 8 + (me2.2.2.2.1 + 11) + 64 * (d - 2) ≤ 64 * (d - 1)
    omega
  obtain ⟨nn, hSx1⟩ := pm_hasS hSx
  have hobj : t_OB (E.1 + x.toNat) (D.1 11) (pm_N 11) (D.2 11) s.heap (fun j => pm_v E (pm_ft 11 j, M x.toNat j)) := by
    have := hR.2 _ _ _ hSx1
    unfold pm_cell at this
    rw [if_pos (by decide)] at this
    exact this
  have hrun := vx_runV (p := p) (e := e) (R := (headSpec (pm_wl yl cc) (pm_rm (d - 1) (S1.length - S.length) (pm_sz S1 - pm_sz S))).room) (below := below) (meth := meth) (locs := []) (cells := 0) (slots := 0) (Ts := pm_GW) (own := RL) (C := me2.1.cls) (b := E.1 + x.toNat) (As := [.int (Int32.ofInt p0), .int (Int32.ofInt q0)]) (rest := [.int 0, .ref (E.1 + o.toNat)]) (H := s.heap) (g := F0 m 5 Ls [.int (Int32.ofInt q0), .int (Int32.ofInt p0), .ref (E.1 + x.toNat), .int 0, .ref (E.1 + o.toNat)]) ⟨hx1, hb1, hml, hown, hts⟩ hM ⟨callB_of 2 hts (pm_wsG (hcwd (Or.inr (Or.inl hh)))) rfl rfl rfl (hts _ (hq _ (by simp))) (hts _ (hq _ (by simp [pm_own]))) ⟨m2, m3, by rw [m5, hn2]⟩ hroom, hts _ (hq _ (by simp)), hts _ (hq _ (by simp))⟩
    ⟨pm_Pc_blind, (by
      obtain ⟨cell, q1, q2, q3, -⟩ := hobj
      refine ⟨cell, q1, by rw [q3]; rfl, ?_⟩
      rw [m1, h11, q2]
      exact (hK.1 11 (by decide)).2.1), fun U hU hW => ⟨by rw [List.map_cons, pm_vref hx]; rfl, by rw [hU]; exact hR, hG, by rw [hU]; exact hK.go hW (Nat.le_refl _) (fun q _ _ => rfl)⟩⟩ rfl rfl hl1.1 rfl (by show 2 * 0 + (1 + (1 + 0)) ≤ 8; decide) d5 ⟨by show 0 + _ ≤ S1.length - S.length; omega, by show 0 + _ ≤ pm_sz S1 - pm_sz S; omega⟩
  intro T hT X
  rcases hrun T hT X with ⟨v, st₀, t, T', L, h0, X', hL, e1, e2, ⟨h7, hv, hR1, hG1, hri, hz, hk⟩, st⟩ | ⟨qa, st₀, t, T', L, E0, ce, h0, X', hL, e1, e2, ⟨hE0, h7, hR1, hG1, hz, hk⟩, hce, hcv, hcl1, st⟩
  · rw [h0] at hz hk
    rcases hb with ⟨hb1', -, -⟩ | ⟨v0, rfl, rfl, rfl⟩
    · rw [hb1'] at h7
      exact absurd rfl h7
    cases hv
    have hv0 := (hri _ rfl).1 rfl
    have hS2 : va_S (pm_A E) s.heap T'.heap ([] ++ L) := ⟨by rw [e1]; exact hz, fun q h1 h2 => by rw [e1]; exact hk q h1 h2, fun q hq => hL q hq⟩
    have hcell : T'.heap[E.1 + o.toNat]? = some (arrV (cs 15) 1 (fun j => pm_v E (pm_kt 15, M1 o.toNat j))) := by
      have := hR1.2 _ _ _ hS1
      unfold pm_cell at this
      rw [if_neg (by decide), if_pos (by decide), ← e1] at this
      exact this
    have kW : W p l e (headSpec (pm_wl yl cc) (pm_rm (d - 1) (S1.length - S.length) (pm_sz S1 - pm_sz S))).room s m (([(2, x), (0, p0), (0, q0), (2, o)] : List pm_V).map (pm_v E)).toArray below meth c T'.heap ([] ++ L) (0 + (S1.length - S.length)) (0 + (pm_sz S1 - pm_sz S)) (MQ below (pm_Qc E D cs (some (0, 0)) S1 (pm_up M1 o.toNat 0 v0)) (([(2, x), (0, p0), (0, q0), (2, o)] : List pm_V).map (pm_v E)).toArray s (S1.length - S.length) (pm_sz S1 - pm_sz S) (pm_A E)) (F0 m 8 Ls [.int (Int32.ofInt v0), .int 0, .ref (E.1 + o.toNat)]) := by
      rw [Nat.zero_add, Nat.zero_add]
      refine lv_i2l hx1 hb1 d8 (pm_i2l hv0) ?_
      refine W.last hx1 hb1 hcell ((hK.2.1 15 (by decide) (by decide)).1 1 _) (fun q => by cases q) (by rw [arrV_size]; decide) rfl rfl d9 (fun H2 g1 g2 g3 => ?_)
      refine lv_goto hx1 hb1 d10 (tgt := 17) rfl ?_
      refine lv_iconst (v := 0) hx1 hb1 d17 rfl ?_
      have hS3 := hS2.put (k := (0 : Int32).toNatClampNeg) g2 g3 (show pm_A E (E.1 + o.toNat) from Nat.le_add_right _ _)
      refine W.iret (v := 0) hx1 hb1 hr1 (fun t9 ht9 _ => ⟨rfl, ?_, ?_, fun v hv => by cases hv; exact pm_in0 (by omega), hS3.F ht9⟩) hS3.2.2 d18
      · rw [ht9]
        refine pm_R.put (M := M1) (H := T'.heap) (by rw [e1]; exact hR1) hS1 g2 g3 ?_ (fun b hb => pm_up_ne hb)
        unfold pm_cell
        rw [if_neg (by decide), if_pos (by decide), g1, show (0 : Int32).toNatClampNeg = 0 from rfl, arrV_store]
        exact congrArg some (pm_arrU (E := E) (M := M1) (a := o.toNat) (i := 0) (kt := pm_kt 15) (v := v0))
      · exact hG1.put hS1 (pm_in1 (by omega))
    obtain ⟨t2, a1, b1⟩ := kW T' rfl X'
    exact ⟨t2, st t2 a1, b1⟩
  · rw [h0] at hz hk
    rcases hb with ⟨-, rfl, rfl⟩ | ⟨v0, hb1', -, -⟩
    · have hS2 : va_S (pm_A E) s.heap T'.heap ([] ++ L) := ⟨by rw [e1]; exact hz, fun q h1 h2 => by rw [e1]; exact hk q h1 h2, fun q hq => hL q hq⟩
      have kX : vx_W p l e (headSpec (pm_wl yl cc) (pm_rm (d - 1) (S1.length - S.length) (pm_sz S1 - pm_sz S))).room s m (([(2, x), (0, p0), (0, q0), (2, o)] : List pm_V).map (pm_v E)).toArray below meth c T'.heap ([] ++ L) (0 + (S1.length - S.length)) (0 + (pm_sz S1 - pm_sz S)) (MQ below (pm_Qc E D cs (some (0, 1)) S1 M2) (([(2, x), (0, p0), (0, q0), (2, o)] : List pm_V).map (pm_v E)).toArray s (S1.length - S.length) (pm_sz S1 - pm_sz S) (pm_A E)) (F0 m 5 Ls [.int 0, .ref (E.1 + o.toNat)]) qa := by
        rw [Nat.zero_add, Nat.zero_add]
        refine vx_catch (own := RL) (name := pm_nse) (E := E0) (ce := ce) hown [] _ [] htab (fun z hz => absurd hz List.not_mem_nil) rfl (by decide) (hts _ (pm_hGW pm_excW.2.2.2 rfl)) (by rw [hE0]; exact va_Nw.use rfl hK.2.2.1.2.2.2.1) (by rw [e1]; exact hce) hcv hcl1 ?_
        refine lv_astore hx1 hb1 d13 hl1 (by decide) rfl (fun Ls' _ => ?_)
        refine lv_iconst (v := 1) hx1 hb1 d15 rfl ?_
        exact W.iret (v := 1) hx1 hb1 hr1 (fun t9 ht9 _ => ⟨rfl, by rw [ht9, e1]; exact hR1, hG1, fun v hv => by cases hv; exact pm_in0 (by omega), hS2.F ht9⟩) hS2.2.2 d16
      obtain ⟨t2, a1, b1⟩ := kX T' rfl X'
      exact ⟨t2, st.trans a1, b1⟩
    · rw [hb1'] at h7
      cases h7
end PMG

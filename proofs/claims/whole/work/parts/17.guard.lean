def pm_rx : ByteArray := prog_31_method_4_code
theorem pm_rx0 : decode pm_rx 0 = .ok (.aload_n 0, 1) ∧ decode pm_rx 1 = .ok (.aload_n 1, 1) ∧ decode pm_rx 2 = .ok (.invokespecial 13, 3) ∧ decode pm_rx 5 = .ok (.return_, 1) := by decide +kernel
abbrev pm_at : List Cond := Bundle.ownAtomsX RX11 136 pm_nse 13 pm_rx pm_nss
def pm_bad : List Cond := [.laysStatic Bundle.tN "UNASSIGNED_STACK" Bundle.steD, .laysStatic Bundle.tN "SUPPRESSED_SENTINEL" Bundle.listD, .declares (Bundle.initS "java/lang/RuntimeException"), .declares (Bundle.initS "java/lang/Exception"), .declares (Bundle.initS Bundle.tN), .castable pm_nse pm_nse, .isRef (.static Bundle.tN "UNASSIGNED_STACK" Bundle.steD), .isRef (.static Bundle.tN "SUPPRESSED_SENTINEL" Bundle.listD)]
theorem pm_atBad : pm_at.filter (fun w => !goodWord w) = pm_bad := by decide +kernel
theorem pm_atGood : (pm_at.filter goodWord).all (fun w => decide (w ∈ lw_tbl)) = true := by decide +kernel
theorem pm_fitN : Bundle.fit pm_nse = true ∧ ∀ n ∈ pm_nss, Bundle.fit n = true := by decide +kernel
section PMK
variable {p : Program} {l : Launch} {e : Env} {R : Room} {s : State} {m : MethodId} {args : Array Value} {below : List Frame} {meth : Method} {c : Code} {H : Heap} {locs : List Loc} {cells slots : Nat} {Q : State → Prop}
variable {E : pm_E} {D : va_G} {cs : Nat → ClassId} {sc : Nat × (Nat → Int)} {me : pm_Me} {d pc : Nat} {Ls : Array Slot} {rest : List Value}
theorem pm_hat (hts : ∀ w ∈ pm_GW, w.before args s = true) (hK : pm_K E D cs sc s s.heap) : ∀ w ∈ pm_at, w.before args s = true := by
  intro w hw
  by_cases g : goodWord w = true
  · exact hts w (pm_hGW (of_decide_eq_true (List.all_eq_true.mp pm_atGood w (List.mem_filter.mpr ⟨hw, g⟩))) g)
  · have hb : w ∈ pm_bad := by
      rw [← pm_atBad]
      refine List.mem_filter.mpr ⟨hw, ?_⟩
      cases hgw : goodWord w
      · rfl
      · exact absurd hgw g
    obtain ⟨-, -, ⟨-, -, -, x1, x2, x3, x4⟩, -, -, ⟨-, hU, hN⟩, -⟩ := hK
    unfold pm_bad at hb
    simp only [List.mem_cons, List.not_mem_nil, or_false] at hb
    rcases hb with rfl | rfl | rfl | rfl | rfl | rfl | rfl | rfl
    · exact hU.2.word
    · exact hN.2.word
    · exact va_Nw.use rfl x2
    · exact va_Nw.use rfl x3
    · exact va_Nw.use rfl x4
    · exact va_Nw.use rfl x1
    · exact vx_isRefq hU.1
    · exact vx_isRefq hN.1
set_option maxHeartbeats 4000000 in
/-- the constructor of the exception, on its new cell -/
theorem pm_ctorW (hl : l.stackTraces = false) (hexec : p.tables.exec = Jvm.exec) (hown : s.vm.findClass RX11 = some m.cls) (hat : ∀ w ∈ pm_at, w.before args s = true) (hU : vx_L Bundle.tN "UNASSIGNED_STACK" Bundle.steD (pm_A E) s s.heap) (hS : va_S (pm_A E) s.heap H locs)
    {cX : ClassId} {kX : Class} (hfX : s.vm.findClass pm_nse = some cX) (hkX : s.vm.classes[cX]? = some kX) {a : Nat} (ha : pm_A E a) (hcell : H[a]? = some (freshCell cX kX)) {msg : Value} (hmsg : msg.isRef = true) (hsize : Ls.size = c.maxLocals) (hdg : decode c.code pc = .ok (.invokespecial 136, 3))
    (hRf : 5 < R.frames) (hRl : (rest.map fun v => v.category).sum + 100 ≤ R.locals)
    (kk : ∀ (H' : Heap) (ce : Cell) (locs' : List Loc), H'[a]? = some ce → ce.vm = .none → ce.cls = cX → H'.size = H.size → (∀ q, q ≠ a → H'[q]? = H[q]?) → (∀ z ∈ locs', pm_A E z.base) → W p l e R s m args below meth c H' locs' cells slots Q (F0 m (pc + 3) Ls (.ref a :: rest))) :
    W p l e R s m args below meth c H locs cells slots Q (F0 m pc Ls (msg :: .ref a :: .ref a :: rest)) := by
  intro T hT X
  have htr : e.platform.stackTraces = false := (show e.platform.stackTraces = l.stackTraces by rw [X.admits.platform]).trans hl
  have howns : e.platform.frameOwnsMonitors = true := by rw [X.admits.platform]
  have hfin : e.platform.finalization = false := by rw [X.admits.platform]
  have hpl : e.platform.magicAccessors = ({} : Platform).magicAccessors := by rw [X.admits.platform]
  have a' : ∀ x, x ∈ pm_at → x.holds args s none s [] = true := fun x hx => hat x hx
  have inT : ∀ x, x ∈ Bundle.throwableAtoms → x ∈ pm_at := fun x hx => by simp [pm_at, Bundle.ownAtomsX, hx]
  have inS : ∀ x, x ∈ Bundle.throwableSAtoms → x ∈ pm_at := fun x hx => by simp [pm_at, Bundle.ownAtomsX, hx]
  have inC : ∀ x, x ∈ Bundle.chainSAtomsX pm_nse 13 pm_rx pm_nss → x ∈ pm_at := fun x hx => by simp [pm_at, Bundle.ownAtomsX, hx]
  obtain ⟨TT, Z0, L, -, Y⟩ := ThrowableC.of_atoms (args := args) howns hfin hpl (fun x hx => hat x (inT x hx))
  obtain ⟨Z, M, LZ, LM, hnZ⟩ := Init0T.ofS_atoms (args := args) hpl L Y (fun x hx => hat x (inS x hx))
  obtain ⟨P1, Ps, hlen, L1, hL, hP1m, hlink1, hlink⟩ := Bundle.chainSX (args := args) hpl hnZ pm_rx0.1 pm_rx0.2.1 pm_rx0.2.2.1 pm_rx0.2.2.2 pm_nss pm_nse pm_fitN.1 pm_fitN.2 (fun x hx => hat x (inC x hx))
  have hfound : s.vm.findClass pm_nse = some P1.m.cls := findClass_of_methodNamed hP1m
  cases Option.some.inj (hfX.symm.trans hfound)
  obtain ⟨c1, kX', hc1, hk, hord, -, -, hn6⟩ := Cond.instantiable_spec (a' (.instantiable pm_nse 6) (by simp [pm_at, Bundle.ownAtomsX]))
  cases Option.some.inj (hc1.symm.trans hfound)
  cases Option.some.inj (hkX.symm.trans hk)
  have sel : ∀ {y : MethodName} {r : MethodId}, Cond.selects pm_nse y y ∈ pm_at → s.methodNamed? y = some r → (y.cls ≠ "java/lang/invoke/MethodHandle" ∧ y.cls ≠ "java/lang/invoke/VarHandle") → selectMethod e.platform s.vm P1.m.cls r = .method r := by
    intro y r hy hr hne
    obtain ⟨c2, r2, m2, q1, q2, q3, q4, -⟩ := Cond.selects_spec (a' _ hy)
    cases Option.some.inj (q1.symm.trans hfound)
    cases Option.some.inj (q2.symm.trans (State.methodFound?_of_named hr hne))
    cases Option.some.inj (q3.symm.trans hr)
    rw [Launch.admits_selectMethod X.admits]; exact q4
  have hsel0 := sel (y := Bundle.tFill0) (by simp [pm_at, Bundle.ownAtomsX]) Y.fill0 (by decide)
  have hselF := sel (y := Bundle.tFill) (by simp [pm_at, Bundle.ownAtomsX]) Y.fill (by decide)
  obtain ⟨cellS0, hcS0, hiss⟩ := Y.statics
  obtain ⟨u0, hu0⟩ := Cond.staticRefV Y.unassigned L.unassignedStatic L.statics hcS0 hiss (a' (.isRef (.static Bundle.tN "UNASSIGNED_STACK" Bundle.steD)) (by simp [pm_at, Bundle.ownAtomsX]))
  obtain ⟨sen, hsen⟩ := Cond.staticRefV Y.sentinel L.sentinelStatic L.statics hcS0 hiss (a' (.isRef (.static Bundle.tN "SUPPRESSED_SENTINEL" Bundle.listD)) (by simp [pm_at, Bundle.ownAtomsX]))
  obtain ⟨ci198, i198, fB, hk198, hg198, ha198, hsB, -, hnB, htB, hffB⟩ := Cond.ownField (t := .object "java/lang/Object") Y.found L.cls (by decide +kernel) (a' (.fieldLink Bundle.tN 198 Bundle.tN "backtrace" "Ljava/lang/Object;") (by simp [pm_at, Bundle.ownAtomsX])) (a' (.lays Bundle.tN Bundle.tN "backtrace" "Ljava/lang/Object;") (by simp [pm_at, Bundle.ownAtomsX])) e.platform hpl
  have hnotA : ¬ pm_A E TT.aS := by
    obtain ⟨c9, k9, i9, f9, a9, cell9, -, hff, -, hst9, -, -, -, -, -, hnA⟩ := hU
    have e9 := hff.symm.trans Y.unassigned
    simp only [Option.some.injEq, Prod.mk.injEq] at e9
    have e10 : some a9 = some TT.aS := by
      rw [← hst9, e9.2.1]
      exact L.statics
    cases e10
    exact hnA
  have hcellS : T.heap[TT.aS]? = some cellS0 := by
    rw [hT, hS.2.1 TT.aS (Array.getElem?_eq_some_iff.mp hcS0).1 hnotA]
    exact hcS0
  have hknownS : cellS0.vm ≠ .unknown := by
    intro hu
    rw [hu] at hiss
    cases hiss
  have hneS : TT.aS ≠ a := fun q => hnotA (by rw [q]; exact ha)
  obtain ⟨iM, hffM⟩ := Y.msg
  obtain ⟨tyC, dC, hdC, hdnC⟩ := Cond.laysAt hfound hk Y.cause (a' (.lays pm_nse Bundle.tN "cause" "Ljava/lang/Throwable;") (by simp [pm_at, Bundle.ownAtomsX]))
  obtain ⟨tyS, dS, hdS, hdnS⟩ := Cond.laysAt hfound hk Y.stack (a' (.lays pm_nse Bundle.tN "stackTrace" Bundle.steD) (by simp [pm_at, Bundle.ownAtomsX]))
  obtain ⟨tyP, dP, hdP, hdnP⟩ := Cond.laysAt hfound hk Y.supp (a' (.lays pm_nse Bundle.tN "suppressedExceptions" Bundle.listD) (by simp [pm_at, Bundle.ownAtomsX]))
  obtain ⟨tyM, dM, hdM, hdnM⟩ := Cond.laysAt hfound hk hffM (a' (.lays pm_nse Bundle.tN "detailMessage" "Ljava/lang/String;") (by simp [pm_at, Bundle.ownAtomsX]))
  obtain ⟨tyB, dB, hdB, hdnB⟩ := Cond.laysAt hfound hk hffB (a' (.lays pm_nse Bundle.tN "backtrace" "Ljava/lang/Object;") (by simp [pm_at, Bundle.ownAtomsX]))
  have bC := Cond.laysApart hdB hdC hdnB hdnC (by rw [hnB, Y.causeName]; decide)
  have bS := Cond.laysApart hdB hdS hdnB hdnS (by rw [hnB, Y.stackName]; decide)
  have bP := Cond.laysApart hdB hdP hdnB hdnP (by rw [hnB, Y.suppName]; decide)
  have hcellT : T.heap[a]? = some (freshCell P1.m.cls kX) := by rw [hT]; exact hcell
  have hskip : SkipFacts TT e.platform s (fun u => u) u0 ((preparedCellV TT.toThrowableT (freshCell P1.m.cls kX) a u0 sen).withEntry T.cur) :=
    ⟨{ ci198 := ci198, i198 := i198, fBack := fB }, ⟨hk198, hg198, ha198, hsB⟩, by
      have := fresh_default (c := P1.m.cls) tyB
      rw [htB] at this
      simpa [preparedCellV, Cell.setSlot, Cell.withEntry, Array.getElem?_setIfInBounds, bC, bS, bP, bC.symm, bS.symm, bP.symm, defaultValue] using this, fun _ _ => rfl⟩
  obtain ⟨tm, methC, cdC, kC, vm₁, hnC, -, -, -, -, -, -, -, hW₁, st1⟩ := Steps.initColdS (tb := p.tables) (e := e) (below := below) (s := s) (U := T) X.here hexec X.warmed hpl hown (t := Bundle.initS pm_nse) rfl rfl (Bundle.fit_spec pm_fitN.1).2
    (a' (.methodLink RX11 136 (Bundle.initS pm_nse)) (by simp [pm_at, Bundle.ownAtomsX])) (hat (.instanceMethod (Bundle.initS pm_nse)) (inC _ (by simp [pm_nss, Bundle.chainSAtomsX, Bundle.passSAtoms]))) (bytes := pm_rx) (maxL := 2) (hat (.code (Bundle.initS pm_nse) pm_rx 2 none) (inC _ (by simp [pm_nss, Bundle.chainSAtomsX, Bundle.passSAtoms])))
    (f := F0 m pc Ls (msg :: .ref a :: .ref a :: rest)) rfl (a := a) (msg := msg) (rest := .ref a :: rest) rfl hdg
  cases Option.some.inj (hnC.symm.trans hP1m)
  have X₁ := X.noted hW₁
  have hln : Ps.length = 2 := hlen
  obtain ⟨vm₂, X₂, st2⟩ := X₁.ctorMessageOffV hexec (g := F0 m pc Ls (.ref a :: rest)) rfl hsize TT L Z LZ M LM (P1 :: Ps)
    (fun P hP => by rcases List.mem_cons.mp hP with rfl | hP; exact L1; exact hL P hP) ⟨hlink1, hlink⟩ (u0 := u0) (sen := sen) (self := a) hmsg (cell := freshCell P1.m.cls kX) (cellS := cellS0)
    hcellT (fun _ => by simp) (by simp) rfl rfl hsel0 hselF hcellS hneS hknownS hu0 hsen
    (Takes.of_laid hk hord tyC (by rw [Y.causeType]; rfl)) (Takes.of_laid hk hord tyS (by rw [Y.stackType]; exact fits_refV_array _ u0)) (Takes.of_laid hk hord tyP (by rw [Y.suppType]; exact fits_refV_object _ sen))
    (Takes.of_laid hk hord tyM (by rw [Y.msgType]; exact fits_refV_object _ ⟨msg, hmsg⟩)) Y.objLocals hskip htr [] hdg
    (by simp only [List.length_cons, hln]; omega) (by
      show 2 * 0 + ((Value.ref a :: rest).map fun v => v.category).sum + (13 * (P1 :: Ps).length + 42) ≤ R.locals
      have hcat : (Value.ref a).category = 1 := rfl
      simp only [List.map_cons, List.sum_cons, List.length_cons, hln, hcat]
      omega)
  have hlt : a < ((T.setVm vm₁).setVm vm₂).heap.size := (Array.getElem?_eq_some_iff.mp hcellT).1
  obtain ⟨t, a1, b1⟩ := kk _ _ _ (heapAt_setCell_self (s := (T.setVm vm₁).setVm vm₂) (plainBareV TT.toThrowableT (freshCell P1.m.cls kX) a u0 sen msg) hlt) rfl rfl (by rw [size_setCell]; exact congrArg Array.size hT) (fun q hq => by rw [heapAt_setCell_ne _ (Ne.symm hq)]; exact congrArg (fun (h : Heap) => h[q]?) hT) (fun z hz => by
      rcases List.mem_append.mp hz with h | h
      · exact hS.2.2 z h
      · simp only [List.mem_cons, List.not_mem_nil, or_false] at h
        rcases h with rfl | rfl | rfl | rfl | rfl <;> exact ha) _ rfl X₂
  refine ⟨t, st1 _ (fun acts => ?_), b1⟩
  rw [doInvoke_state]
  exact st2 _ a1
end PMK
section PMW
variable {p : Program} {l : Launch} {e : Env} {R : Room} {s : State} {m : MethodId} {args : Array Value} {below : List Frame} {meth : Method} {c : Code} {H : Heap} {locs : List Loc} {cells slots : Nat} {Q : State → Prop}
variable {E : pm_E} {D : va_G} {cs : Nat → ClassId} {sc : Nat × (Nat → Int)} {me : pm_Me} {n d pc : Nat} {Ls : Array Slot} {rest : List Value}
theorem pm_athrow {cc : ByteArray} (hexec : p.tables.exec = Jvm.exec) (hb : c.code = cc) {q : Addr} (hdg : decode cc pc = .ok (.athrow, 1)) (k : vx_W p l e R s m args below meth c H locs cells slots Q (F0 m pc Ls rest) q) : W p l e R s m args below meth c H locs cells slots Q (F0 m pc Ls (.ref q :: rest)) := by
  intro T hT X
  obtain ⟨t, st, hq⟩ := k T hT X
  refine ⟨t, ?_, hq⟩
  have hdg' : decode c.code pc = .ok (.athrow, 1) := by rw [hb]; exact hdg
  jvm_step X.here [X.here.top, hexec, hdg', athrow.wp_sem]
  exact st
theorem pm_thrS (h : pm_thr me pc = true) : decode me.2.1 (pc + 3) = .ok (.dup, 1) ∧ decode me.2.1 (pc + 6) = .ok (.invokespecial 136, 3) ∧ decode me.2.1 (pc + 9) = .ok (.athrow, 1) ∧ ∃ i k, decode me.2.1 (pc + 4) = .ok (.ldc i, 2) ∧ pm_st me.2.2.1 i = some k := by
  unfold pm_thr at h
  simp only [Bool.and_eq_true, decide_eq_true_eq] at h
  obtain ⟨⟨⟨h1, h2⟩, h3⟩, h4⟩ := h
  refine ⟨h1, h2, h3, ?_⟩
  split at h4
  · rename_i i hi
    cases hs : pm_st me.2.2.1 i with
    | none => rw [hs] at h4; cases h4
    | some k => exact ⟨i, k, hi, hs⟩
  · cases h4
theorem pm_excW : Cond.classLink RX11 132 pm_nse ∈ lw_tbl ∧ Cond.instantiable pm_nse 6 ∈ lw_tbl ∧ Cond.initialized pm_nse ∈ lw_tbl ∧ Cond.classLink RL 13 pm_nse ∈ lw_tbl := by decide +kernel
theorem pm_exc1 {o j : Nat} (h : (o, j) ∈ pm_exc) : o = 11 ∧ j = 132 := by
  unfold pm_exc at h
  simpa using h
/-- a method that returns or throws -/
theorem pm_vmet (hl : l.stackTraces = false) (ih : pm_Sn E D cs sc l n) {as : List pm_V} {S : pm_S} {M : pm_M} {r : Option pm_V} {S' : pm_S} {M' : pm_M} (hX : pm_X sc n d me 0 (pm_ent me.2.2.2.1 as) [] S M = some (r, S', M'))
    (hlen : (pm_ent me.2.2.2.1 as).length = me.2.2.2.1) (has : ∀ v ∈ as, pm_in v) (hd : 18 ≤ d) (hy : plainName me.1.cls = true) (hcl : me.1.cls = pm_own me.2.2.1) (hni : me.2.2.2.2.2.2 = 1) :
    vx_Met l me.1 (pm_ws me) (pm_rm d (S'.length - S.length) (pm_sz S' - pm_sz S)) (pm_Pc E D cs sc as S M) (fun a st oc t => r.map Prod.fst ≠ some 7 ∧ pm_Qc E D cs r S' M' a st oc t) (fun X0 st t => X0 = pm_nse ∧ r = some (7, 0) ∧ pm_R E D cs S' M' t.heap ∧ pm_G S' M' ∧ va_F (pm_A E) st t) (S'.length - S.length) (pm_sz S' - pm_sz S) (pm_A E) := by
  refine vx_ofW (cc := me.2.1) (maxL := me.2.2.2.1) (ret := pm_ret me.2.2.2.2.1) hy rfl ?_
  intro p e s m args below meth c s₁ B hml hnone hv
  obtain ⟨rfl, hR, hG, hK⟩ := hv
  have hts : ∀ w ∈ pm_ws me, w.before (as.map (pm_v E)).toArray s = true := atoms_spec (ws := pm_ws me) B.pre
  have hlocks := B.notSynchronized
  have hr := B.returns
  have C : pm_C E D cs sc p (headSpec (pm_ws me) (pm_rm d (S'.length - S.length) (pm_sz S' - pm_sz S))).room s m (as.map (pm_v E)).toArray meth c me d :=
    ⟨B.exec, B.bytes, hml, by rw [← hcl]; exact findClass_of_methodNamed B.named, fun w hw => hts w (List.mem_cons_of_mem _ hw), hK, fun h => by omega, Nat.le_refl _, Nat.le_refl _, hd⟩
  have hmono := pm_X_mono _ _ _ _ _ _ _ _ _ _ _ hX
  rw [lg_entry_eq]
  have Y : pm_Y E D cs s me S M (pm_ent me.2.2.2.1 as) [] s.heap [] ((lg_sl (as.map (pm_v E)) ++ List.replicate (me.2.2.2.1 - (lg_sl (as.map (pm_v E))).length) Slot.unset).toArray) :=
    ⟨hR, hG, va_S.rf, pm_entS E _ as hlen, hlen, pm_entI has, fun v hv => absurd hv List.not_mem_nil⟩
  refine ih d me 0 _ [] S M r S' M' hX p e _ s m _ below meth c s.heap [] _ 0 0 _ C Y (by rw [Nat.zero_add]; exact Nat.le_refl _) (by rw [Nat.zero_add]; exact Nat.le_refl _) ?_
  intro pcT ST lsT stT H' locs' Ls' hT hz1 hz2 Y'
  have hq : ∀ t : State, t.heap = H' → S' = ST → r.map Prod.fst ≠ some 7 → (∀ v, r = some v → pm_in v) → (r.map Prod.fst ≠ some 7 ∧ pm_Qc E D cs r S' M' (as.map (pm_v E)).toArray s (.returned (r.map (pm_v E))) t) := fun t ht hS h7 hri => ⟨h7, rfl, by rw [ht, hS]; exact Y'.1, by rw [hS]; exact Y'.2.1, hri, Y'.2.2.1.F ht⟩
  rw [Nat.zero_add, Nat.zero_add]
  rcases hT with ⟨rfl, h | h | h⟩ | ⟨rfl, j, hdg, hj, rfl, rfl, hthr⟩
  · obtain ⟨x, hdg, rfl, rfl, hk⟩ := h
    have hx : pm_in (0, x) := Y'.2.2.2.2.2.2 _ List.mem_cons_self
    have hri : ∀ v, some ((0, x) : pm_V) = some v → pm_in v := fun v hv => by cases hv; exact hx
    have h7 : (some ((0, x) : pm_V)).map Prod.fst ≠ some 7 := by simp
    rcases hk with hk | ⟨hk, hk2⟩ | ⟨hk, hk2⟩ | ⟨hk, hk2⟩
    · rw [hk] at hr
      exact vx_ret (W.iret (v := Int32.ofInt x) C.1 C.2.1 hr (fun t ht _ => hq t ht rfl h7 hri) Y'.2.2.1.2.2 hdg)
    · rw [hk] at hr
      exact vx_ret (W.zret (v := Int32.ofInt x) (ty := .boolean) C.1 C.2.1 hr (by rcases hk2 with rfl | rfl <;> rfl) (fun t ht _ => hq t ht rfl h7 hri) Y'.2.2.1.2.2 hdg)
    · rw [hk] at hr
      exact vx_ret (W.zret (v := Int32.ofInt x) (ty := .char) C.1 C.2.1 hr (pm_nchar hk2) (fun t ht _ => hq t ht rfl h7 hri) Y'.2.2.1.2.2 hdg)
    · rw [hk] at hr
      exact vx_ret (W.zret (v := Int32.ofInt x) (ty := .byte) C.1 C.2.1 hr (by
        show Value.int (Int32.ofInt x).toInt8.toInt32 = _
        rw [pm_i2b]
        congr 2
        unfold w8
        omega) (fun t ht _ => hq t ht rfl h7 hri) Y'.2.2.1.2.2 hdg)
  · obtain ⟨x, hdg, rfl, rfl, hk⟩ := h
    rw [hk] at hr
    exact vx_ret (W.lret (v := Int64.ofInt x) C.1 C.2.1 hr (fun t ht _ => hq t ht rfl (by simp) (fun v hv => by cases hv; exact Y'.2.2.2.2.2.2 _ List.mem_cons_self)) Y'.2.2.1.2.2 hdg)
  · obtain ⟨hdg, rfl, rfl, hk⟩ := h
    rw [hk] at hr
    exact vx_ret (W.vret C.1 C.2.1 hr (fun t ht _ => hq t ht rfl (by simp) (fun v hv => by cases hv)) Y'.2.2.1.2.2 hdg)
  · obtain ⟨h11, rfl⟩ := pm_exc1 hj
    obtain ⟨d3, d6, d9, i, k, d4, hst⟩ := pm_thrS hthr
    have hts' := C.2.2.2.2.1
    have hown : s.vm.findClass RX11 = some m.cls := by have := C.2.2.2.1; rw [h11] at this; exact this
    have ww := pm_excW
    have hins : (Cond.instantiable pm_nse 6).before (as.map (pm_v E)).toArray s = true := hts' _ (pm_hGW ww.2.1 rfl)
    obtain ⟨cC, kC, hfc, hkC, -⟩ := Cond.instantiable_spec hins
    obtain ⟨tx, hZ⟩ := pm_stS C.2.2.2.2.2.1 hst
    have hsz : (ST ++ [(18, 6)]).length = ST.length + 1 := by rw [List.length_append]; rfl
    have hss : pm_sz (ST ++ [(18, 6)]) = pm_sz ST + 6 := by rw [pm_sz_app]; rfl
    have hK' := C.2.2.2.2.2.1
    refine W.newcK C.1 C.2.1 C.2.2.2.1 (by rw [h11]; exact hts' _ (pm_hGW ww.1 rfl)) hins (hts' _ (pm_hGW ww.2.2.1 rfl)) rfl hdg (by show _ ≤ (ST ++ [(18, 6)]).length - S.length; omega) (by show _ ≤ pm_sz (ST ++ [(18, 6)]) - pm_sz S; omega) hfc rfl (fun H1 kC1 hkC1 e1 e2 e3 => ?_)
    cases Option.some.inj (hkC.symm.trans hkC1)
    have hS1 : va_S (pm_A E) s.heap H1 locs' := ⟨by rw [e2]; exact Nat.le_trans Y'.2.2.1.1 (Nat.le_succ _), fun q h1 h2 => by rw [e3 q (Nat.lt_of_lt_of_le h1 Y'.2.2.1.1)]; exact Y'.2.2.1.2.1 q h1 h2, Y'.2.2.1.2.2⟩
    refine lv_dup C.1 C.2.1 d3 rfl ?_
    refine va_ldcS C.1 C.2.1 C.2.2.2.1 hZ d4 ?_
    refine pm_ctorW hl C.1 hown (pm_hat hts' hK') hK'.2.2.2.2.2.1.2.1.2 hS1 hfc hkC (a := H'.size) (by show E.1 ≤ H'.size; have := Y'.1.1; omega) e1 rfl (by rw [Y'.2.2.2.1.1, C.2.2.1]; exact Y'.2.2.2.2.1) (by rw [C.2.1]; exact d6) (by show 5 < d; omega) (by show 0 + 100 ≤ 64 * d; omega) (fun H2 ce locs2 f1 f2 f3 f4 f5 f6 => ?_)
    refine pm_athrow C.1 C.2.1 d9 ?_
    refine vx_out (E := pm_nse) (fun x hx => (hnone x hx).elim) hlocks f1 f2 (by rw [f3]; exact hfc) (fun t ht _ => ?_) f6 (by show _ ≤ (ST ++ [(18, 6)]).length - S.length; omega) (by show _ ≤ pm_sz (ST ++ [(18, 6)]) - pm_sz S; omega)
    have hRn : pm_R E D cs (ST ++ [(18, 6)]) M' H2 := Y'.1.new (by rw [f4, e2]) (fun q hq => by rw [f5 q (by omega), e3 q hq]) (by unfold pm_cell; rw [if_neg (by decide), if_neg (by decide)]; trivial) (fun _ _ => rfl)
    refine ⟨rfl, rfl, by rw [ht]; exact hRn, fun k0 c0 n0 j0 hk0 => ?_, by rw [ht, f4, e2]; exact Nat.le_trans Y'.2.2.1.1 (Nat.le_succ _), fun q h1 h2 => by rw [ht, f5 q (by have := Y'.2.2.1.1; omega), e3 q (Nat.lt_of_lt_of_le h1 Y'.2.2.1.1)]; exact Y'.2.2.1.2.1 q h1 h2⟩
    by_cases hlt : k0 < ST.length
    · rw [List.getElem?_append_left hlt] at hk0
      exact Y'.2.1 k0 c0 n0 j0 hk0
    · have h9 := (List.getElem?_eq_some_iff.mp hk0).1
      have he : k0 = ST.length := by omega
      subst he
      simp at hk0
      obtain ⟨rfl, rfl⟩ := hk0
      exact (show pm_in (2, _) from pm_inx (by decide) (by decide))
end PMW

def pm_rx : ByteArray := prog_31_method_4_code
theorem pm_rx0 : decode pm_rx 0 = .ok (.aload_n 0, 1) ∧ decode pm_rx 1 = .ok (.aload_n 1, 1) ∧ decode pm_rx 2 = .ok (.invokespecial 13, 3) ∧ decode pm_rx 5 = .ok (.return_, 1) := by decide +kernel
abbrev pm_at : List Cond := Bundle.ownAtomsX RX11 136 pm_nse 13 pm_rx pm_nss
def pm_bad : List Cond := [.laysStatic Bundle.tN "UNASSIGNED_STACK" Bundle.steD, .laysStatic Bundle.tN "SUPPRESSED_SENTINEL" Bundle.listD, .declares (Bundle.initS "java/lang/RuntimeException"), .declares (Bundle.initS "java/lang/Exception"), .declares (Bundle.initS Bundle.tN), .castable pm_nse pm_nse, .isRef (.static Bundle.tN "UNASSIGNED_STACK" Bundle.steD), .isRef (.static Bundle.tN "SUPPRESSED_SENTINEL" Bundle.listD)]
theorem pm_atBad : pm_at.filter (fun w => !goodWord w) = pm_bad := by decide +kernel
theorem pm_atGood : (pm_at.filter goodWord).all (fun w => decide (w ∈ lw_tbl)) = true := by decide +kernel
theorem pm_fitN : Bundle.fit pm_nse = true ∧ ∀ n ∈ pm_nss, Bundle.fit n = true := by decide +kernel
section PMK
variable {p : Program} {l : Launch} {e : Env} {R : Room} {s : State} {m : MethodId} {args : Array Value} {below : List Frame} {meth : Method} {c : Code} {H : Heap} {locs : List Loc} {cells slots : Nat} {Q : State → Prop}
variable {E : pm_E} {D : va_G} {cs : Nat → ClassId} {sc : Nat × (Nat → Int)} {me : pm_Me} {d pc : Nat} {Ls : Array Slot} {rest : List Value}
theorem pm_hat (hts : ∀ w ∈ pm_GW, w.before args s = true) (hK : pm_K E D cs sc s s.heap) : ∀ w ∈ pm_at, w.before args s = true := by
  intro w hw
  by_cases g : goodWord w = true
  · exact hts w (pm_hGW (of_decide_eq_true (List.all_eq_true.mp pm_atGood w (List.mem_filter.mpr ⟨hw, g⟩))) g)
  · have hb : w ∈ pm_bad := by
      rw [← pm_atBad]
      refine List.mem_filter.mpr ⟨hw, ?_⟩
      cases hgw : goodWord w
      · rfl
      · exact absurd hgw g
    obtain ⟨-, -, ⟨-, -, -, x1, x2, x3, x4⟩, -, -, ⟨-, hU, hN⟩, -⟩ := hK
    unfold pm_bad at hb
    simp only [List.mem_cons, List.not_mem_nil, or_false] at hb
    rcases hb with rfl | rfl | rfl | rfl | rfl | rfl | rfl | rfl
    · exact hU.2.word
    · exact hN.2.word
    · exact va_Nw.use rfl x2
    · exact va_Nw.use rfl x3
    · exact va_Nw.use rfl x4
    · exact va_Nw.use rfl x1
    · exact vx_isRefq hU.1
    · exact vx_isRefq hN.1
set_option maxHeartbeats 4000000 in
/-- the constructor of the exception, on its new cell -/
theorem pm_ctorW (hl : l.stackTraces = false) (hexec : p.tables.exec = Jvm.exec) (hown : s.vm.findClass RX11 = some m.cls) (hat : ∀ w ∈ pm_at, w.before args s = true) (hU : vx_L Bundle.tN "UNASSIGNED_STACK" Bundle.steD (pm_A E) s s.heap) (hS : va_S (pm_A E) s.heap H locs)
    {cX : ClassId} {kX : Class} (hfX : s.vm.findClass pm_nse = some cX) (hkX : s.vm.classes[cX]? = some kX) {a : Nat} (ha : pm_A E a) (hcell : H[a]? = some (freshCell cX kX)) {msg : Value} (hmsg : msg.isRef = true) (hsize : Ls.size = c.maxLocals) (hdg : decode c.code pc = .ok (.invokespecial 136, 3))
    (hRf : 5 < R.frames) (hRl : (rest.map fun v => v.category).sum + 100 ≤ R.locals)
    (kk : ∀ (H' : Heap) (ce : Cell) (locs' : List Loc), H'[a]? = some ce → ce.vm = .none → ce.cls = cX → H'.size = H.size → (∀ q, q ≠ a → H'[q]? = H[q]?) → (∀ z ∈ locs', pm_A E z.base) → W p l e R s m args below meth c H' locs' cells slots Q (F0 m (pc + 3) Ls (.ref a :: rest))) :
    W p l e R s m args below meth c H locs cells slots Q (F0 m pc Ls (msg :: .ref a :: .ref a :: rest)) := by
  intro T hT X
  have htr : e.platform.stackTraces = false := (show e.platform.stackTraces = l.stackTraces by rw [X.admits.platform]).trans hl
  have howns : e.platform.frameOwnsMonitors = true := by rw [X.admits.platform]
  have hfin : e.platform.finalization = false := by rw [X.admits.platform]
  have hpl : e.platform.magicAccessors = ({} : Platform).magicAccessors := by rw [X.admits.platform]
  have a' : ∀ x, x ∈ pm_at → x.holds args s none s [] = true := fun x hx => hat x hx
  have inT : ∀ x, x ∈ Bundle.throwableAtoms → x ∈ pm_at := fun x hx => by simp [pm_at, Bundle.ownAtomsX, hx]
  have inS : ∀ x, x ∈ Bundle.throwableSAtoms → x ∈ pm_at := fun x hx => by simp [pm_at, Bundle.ownAtomsX, hx]
  have inC : ∀ x, x ∈ Bundle.chainSAtomsX pm_nse 13 pm_rx pm_nss → x ∈ pm_at := fun x hx => by simp [pm_at, Bundle.ownAtomsX, hx]
  obtain ⟨TT, Z0, L, -, Y⟩ := ThrowableC.of_atoms (args := args) howns hfin hpl (fun x hx => hat x (inT x hx))
  obtain ⟨Z, M, LZ, LM, hnZ⟩ := Init0T.ofS_atoms (args := args) hpl L Y (fun x hx => hat x (inS x hx))
  obtain ⟨P1, Ps, hlen, L1, hL, hP1m, hlink1, hlink⟩ := Bundle.chainSX (args := args) hpl hnZ pm_rx0.1 pm_rx0.2.1 pm_rx0.2.2.1 pm_rx0.2.2.2 pm_nss pm_nse pm_fitN.1 pm_fitN.2 (fun x hx => hat x (inC x hx))
  have hfound : s.vm.findClass pm_nse = some P1.m.cls := findClass_of_methodNamed hP1m
  cases Option.some.inj (hfX.symm.trans hfound)
  obtain ⟨c1, kX', hc1, hk, hord, -, -, hn6⟩ := Cond.instantiable_spec (a' (.instantiable pm_nse 6) (by simp [pm_at, Bundle.ownAtomsX]))
  cases Option.some.inj (hc1.symm.trans hfound)
  cases Option.some.inj (hkX.symm.trans hk)
  have sel : ∀ {y : MethodName} {r : MethodId}, Cond.selects pm_nse y y ∈ pm_at → s.methodNamed? y = some r → (y.cls ≠ "java/lang/invoke/MethodHandle" ∧ y.cls ≠ "java/lang/invoke/VarHandle") → selectMethod e.platform s.vm P1.m.cls r = .method r := by
    intro y r hy hr hne
    obtain ⟨c2, r2, m2, q1, q2, q3, q4, -⟩ := Cond.selects_spec (a' _ hy)
    cases Option.some.inj (q1.symm.trans hfound)
    cases Option.some.inj (q2.symm.trans (State.methodFound?_of_named hr hne))
    cases Option.some.inj (q3.symm.trans hr)
    rw [Launch.admits_selectMethod X.admits]; exact q4
  have hsel0 := sel (y := Bundle.tFill0) (by simp [pm_at, Bundle.ownAtomsX]) Y.fill0 (by decide)
  have hselF := sel (y := Bundle.tFill) (by simp [pm_at, Bundle.ownAtomsX]) Y.fill (by decide)
  obtain ⟨cellS0, hcS0, hiss⟩ := Y.statics
  obtain ⟨u0, hu0⟩ := Cond.staticRefV Y.unassigned L.unassignedStatic L.statics hcS0 hiss (a' (.isRef (.static Bundle.tN "UNASSIGNED_STACK" Bundle.steD)) (by simp [pm_at, Bundle.ownAtomsX]))
  obtain ⟨sen, hsen⟩ := Cond.staticRefV Y.sentinel L.sentinelStatic L.statics hcS0 hiss (a' (.isRef (.static Bundle.tN "SUPPRESSED_SENTINEL" Bundle.listD)) (by simp [pm_at, Bundle.ownAtomsX]))
  obtain ⟨ci198, i198, fB, hk198, hg198, ha198, hsB, -, hnB, htB, hffB⟩ := Cond.ownField (t := .object "java/lang/Object") Y.found L.cls (by decide +kernel) (a' (.fieldLink Bundle.tN 198 Bundle.tN "backtrace" "Ljava/lang/Object;") (by simp [pm_at, Bundle.ownAtomsX])) (a' (.lays Bundle.tN Bundle.tN "backtrace" "Ljava/lang/Object;") (by simp [pm_at, Bundle.ownAtomsX])) e.platform hpl
  have hnotA : ¬ pm_A E TT.aS := by
    obtain ⟨c9, k9, i9, f9, a9, cell9, -, hff, -, hst9, -, -, -, -, -, hnA⟩ := hU
    have e9 := hff.symm.trans Y.unassigned
    simp only [Option.some.injEq, Prod.mk.injEq] at e9
    have e10 : some a9 = some TT.aS := by
      rw [← hst9, e9.2.1]
      exact L.statics
    cases e10
    exact hnA
  have hcellS : T.heap[TT.aS]? = some cellS0 := by
    rw [hT, hS.2.1 TT.aS (Array.getElem?_eq_some_iff.mp hcS0).1 hnotA]
    exact hcS0
  have hknownS : cellS0.vm ≠ .unknown := by
    intro hu
    rw [hu] at hiss
    cases hiss
  have hneS : TT.aS ≠ a := fun q => hnotA (by rw [q]; exact ha)
  obtain ⟨iM, hffM⟩ := Y.msg
  obtain ⟨tyC, dC, hdC, hdnC⟩ := Cond.laysAt hfound hk Y.cause (a' (.lays pm_nse Bundle.tN "cause" "Ljava/lang/Throwable;") (by simp [pm_at, Bundle.ownAtomsX]))
  obtain ⟨tyS, dS, hdS, hdnS⟩ := Cond.laysAt hfound hk Y.stack (a' (.lays pm_nse Bundle.tN "stackTrace" Bundle.steD) (by simp [pm_at, Bundle.ownAtomsX]))
  obtain ⟨tyP, dP, hdP, hdnP⟩ := Cond.laysAt hfound hk Y.supp (a' (.lays pm_nse Bundle.tN "suppressedExceptions" Bundle.listD) (by simp [pm_at, Bundle.ownAtomsX]))
  obtain ⟨tyM, dM, hdM, hdnM⟩ := Cond.laysAt hfound hk hffM (a' (.lays pm_nse Bundle.tN "detailMessage" "Ljava/lang/String;") (by simp [pm_at, Bundle.ownAtomsX]))
  obtain ⟨tyB, dB, hdB, hdnB⟩ := Cond.laysAt hfound hk hffB (a' (.lays pm_nse Bundle.tN "backtrace" "Ljava/lang/Object;") (by simp [pm_at, Bundle.ownAtomsX]))
  have bC := Cond.laysApart hdB hdC hdnB hdnC (by rw [hnB, Y.causeName]; decide)
  have bS := Cond.laysApart hdB hdS hdnB hdnS (by rw [hnB, Y.stackName]; decide)
  have bP := Cond.laysApart hdB hdP hdnB hdnP (by rw [hnB, Y.suppName]; decide)
  have hcellT : T.heap[a]? = some (freshCell P1.m.cls kX) := by rw [hT]; exact hcell
  have hskip : SkipFacts TT e.platform s (fun u => u) u0 ((preparedCellV TT.toThrowableT (freshCell P1.m.cls kX) a u0 sen).withEntry T.cur) :=
    ⟨{ ci198 := ci198, i198 := i198, fBack := fB }, ⟨hk198, hg198, ha198, hsB⟩, by
      have := fresh_default (c := P1.m.cls) tyB
      rw [htB] at this
      simpa [preparedCellV, Cell.setSlot, Cell.withEntry, Array.getElem?_setIfInBounds, bC, bS, bP, bC.symm, bS.symm, bP.symm, defaultValue] using this, fun _ _ => rfl⟩
  obtain ⟨tm, methC, cdC, kC, vm₁, hnC, -, -, -, -, -, -, -, hW₁, st1⟩ := Steps.initColdS (tb := p.tables) (e := e) (below := below) (s := s) (U := T) X.here hexec X.warmed hpl hown (t := Bundle.initS pm_nse) rfl rfl (Bundle.fit_spec pm_fitN.1).2
    (a' (.methodLink RX11 136 (Bundle.initS pm_nse)) (by simp [pm_at, Bundle.ownAtomsX])) (hat (.instanceMethod (Bundle.initS pm_nse)) (inC _ (by simp [pm_nss, Bundle.chainSAtomsX, Bundle.passSAtoms]))) (bytes := pm_rx) (maxL := 2) (hat (.code (Bundle.initS pm_nse) pm_rx 2 none) (inC _ (by simp [pm_nss, Bundle.chainSAtomsX, Bundle.passSAtoms])))
    (f := F0 m pc Ls (msg :: .ref a :: .ref a :: rest)) rfl (a := a) (msg := msg) (rest := .ref a :: rest) rfl hdg
  cases Option.some.inj (hnC.symm.trans hP1m)
  have X₁ := X.noted hW₁
  have hln : Ps.length = 2 := hlen
  obtain ⟨vm₂, X₂, st2⟩ := X₁.ctorMessageOffV hexec (g := F0 m pc Ls (.ref a :: rest)) rfl hsize TT L Z LZ M LM (P1 :: Ps)
    (fun P hP => by rcases List.mem_cons.mp hP with rfl | hP; exact L1; exact hL P hP) ⟨hlink1, hlink⟩ (u0 := u0) (sen := sen) (self := a) hmsg (cell := freshCell P1.m.cls kX) (cellS := cellS0)
    hcellT (fun _ => by simp) (by simp) rfl rfl hsel0 hselF hcellS hneS hknownS hu0 hsen
    (Takes.of_laid hk hord tyC (by rw [Y.causeType]; rfl)) (Takes.of_laid hk hord tyS (by rw [Y.stackType]; exact fits_refV_array _ u0)) (Takes.of_laid hk hord tyP (by rw [Y.suppType]; exact fits_refV_object _ sen))
    (Takes.of_laid hk hord tyM (by rw [Y.msgType]; exact fits_refV_object _ ⟨msg, hmsg⟩)) Y.objLocals hskip htr [] hdg
    (by simp only [List.length_cons, hln]; omega) (by
      show 2 * 0 + ((Value.ref a :: rest).map fun v => v.category).sum + (13 * (P1 :: Ps).length + 42) ≤ R.locals
      have hcat : (Value.ref a).category = 1 := rfl
      simp only [List.map_cons, List.sum_cons, List.length_cons, hln, hcat]
      omega)
  have hlt : a < ((T.setVm vm₁).setVm vm₂).heap.size := (Array.getElem?_eq_some_iff.mp hcellT).1
  obtain ⟨t, a1, b1⟩ := kk _ _ _ (heapAt_setCell_self (s := (T.setVm vm₁).setVm vm₂) (plainBareV TT.toThrowableT (freshCell P1.m.cls kX) a u0 sen msg) hlt) rfl rfl (by rw [size_setCell]; exact congrArg Array.size hT) (fun q hq => by rw [heapAt_setCell_ne _ (Ne.symm hq)]; exact congrArg (fun (h : Heap) => h[q]?) hT) (fun z hz => by
      rcases List.mem_append.mp hz with h | h
      · exact hS.2.2 z h
      · simp only [List.mem_cons, List.not_mem_nil, or_false] at h
        rcases h with rfl | rfl | rfl | rfl | rfl <;> exact ha) _ rfl X₂
  refine ⟨t, st1 _ (fun acts => ?_), b1⟩
  rw [doInvoke_state]
  exact st2 _ a1
end PMK

/-! THE CLAIM OUT OF ONE WALK OF THE LAW'S BODY. Your part is whole_start (and what it stands on); all else here is the same for every law, but numbers. -/
def R_law : String := "ProgramMenderLaw"
def lw_P (b : Addr) (xs : List Int32) (args : Array Value) (s : State) : Prop := args = #[.ref b] ∧ s.IntsAt b xs ∧ xs.length ≤ 3072 ∧ (Jvm.Cond.and given_1 narrow_1).before args s = true
def lw_Q (_ : Array Value) (s : State) (o : Outcome) (t : State) : Prop := o = .returned (some (.int 1)) ∧ Framed s o t [] 601024 7293034
def lw_Z (below : List Frame) (a : Array Value) (s : State) : State → Prop := fun t => ∃ o, t.status = .running ∧ Ended t below o ∧ lw_Q a s o t
/-- the law's own end, with 1 on the stack, nothing written that was there before, its room as the claim has it -/
theorem lw_ret {p : Program} {l : Launch} {e : Env} {s : State} {m : MethodId} {below : List Frame} {meth : Method} {c : Code} {b : Nat} (hx : p.tables.exec = Jvm.exec) (hb : c.code = code) (hr : meth.sig.returnType = ret) (hlocks : meth.locks = false) {pc : Nat} {H : Heap} {ls : Array Slot} (hdg : decode code pc = .ok (.ireturn, 1)) : W p l e room_1 s m #[Value.ref b] below meth c H [] 601024 7293034 (lw_Z below #[Value.ref b] s) (F0 m pc ls [.int 1]) := by
  intro T hT X
  obtain ⟨fs, hret, hrun, hended, hW, hframe⟩ := X.leave (v := some (.int 1)) (hlocks := hlocks) (fun h => by rw [hr] at h; cases h)
  have hmeth' : T.vm.method? m = some meth := X.method'
  refine ⟨T.setFrames fs, ?_, .returned (some (.int 1)), hrun, hended, rfl, ⟨_, rfl⟩, hW, hframe⟩
  jvm_step X.here [X.here.top, hx, hb, hdg, hmeth', hr, ret, narrow_b1]
  (try refine ⟨rfl, ?_⟩); (try refine ⟨rfl, ?_⟩)
  first | (intro acts; rw [hret _ acts rfl rfl rfl]) | rw [hret _ _ rfl rfl rfl]
  exact Steps.refl _
/-- what holds at the law's entry: the machine, the code, the tables' words (any of lw_tbl by 'hts w (by decide +kernel)'), the script of L ints xs at the cell b, what the Statement gives of the start (any of its parts by flat_of_before) -/
def lw_At (p : Program) (s : State) (m : MethodId) (meth : Method) (c : Code) (b L : Nat) (xs : Nat → Int32) : Prop :=
  p.tables.exec = Jvm.exec ∧ c.code = code ∧ meth.sig.returnType = ret ∧ c.maxLocals = 7 ∧ s.vm.findClass R_law = some m.cls ∧ (∀ w ∈ lw_tbl, w.before #[Value.ref b] s = true) ∧ va_X b L xs s s.heap ∧ b < s.heap.size ∧ meth.locks = false ∧ (Jvm.Cond.and given_1 narrow_1).before #[Value.ref b] s = true
/-- the law's start out of the small machine's run -/
theorem pm_whole (hP : pm_Pure) {p : Program} {e : Env} {s : State} {m : MethodId} {below : List Frame} {meth : Method} {c : Code} (l : Launch) (hflags : l.flags = flags0) {b L : Nat} {xs : Nat → Int32} (hL : L ≤ 3072) (C0 : lw_At p s m meth c b L xs) : W p l e room_1 s m #[Value.ref b] below meth c s.heap [] 0 0 (lw_Z below #[Value.ref b] s) (entryFrame m ([Value.ref b] : List Value).toArray 7) := by
  obtain ⟨hx, hb, hr, hml, hown, hts, hX, hbl, hlocks, hpre⟩ := C0
  have hst : l.stackTraces = false := by
    unfold Launch.stackTraces
    rw [hflags]
    decide +kernel
  obtain ⟨E, D, cs, hE1, hE2, hK⟩ := pm_start hts hpre hX hbl hL
  obtain ⟨n, S', M', hrun, hS1, hS2⟩ := hP L (fun j => (xs j).toInt) hL (fun j => pm_r32 _)
  have C : pm_C E D cs (L, fun j => (xs j).toInt) p room_1 s m #[Value.ref b] meth c mL_law 1000 :=
    ⟨hx, hb, hml, hown, fun w hw => hts w (List.mem_filter.mp hw).1, hK, fun h => (by rcases h with h | h <;> cases h), Nat.le_of_ble_eq_true rfl, Nat.le_of_ble_eq_true rfl, Nat.le_of_ble_eq_true rfl⟩
  rw [lg_entry_eq]
  have hlen : (pm_ent 7 [((4, 0) : pm_V)]).length = 7 := by decide
  have hv4 : pm_v E (4, 0) = .ref b := by show Value.ref E.2.1 = _; rw [hE2]
  have hLs := pm_entS E 7 [(4, 0)] hlen
  rw [List.map_cons, List.map_nil, hv4] at hLs
  have hvs : ∀ v ∈ ([(4, 0), (9, 0), (9, 0), (9, 0), (9, 0), (9, 0), (9, 0)] : List pm_V), pm_in v := by
    intro v hv
    simp only [List.mem_cons, List.not_mem_nil, or_false] at hv
    rcases hv with rfl | rfl | rfl | rfl | rfl | rfl | rfl <;> exact pm_inx (by decide) (by decide)
  have Y : pm_Y E D cs s mL_law [] (fun _ _ => 0) [(4, 0), (9, 0), (9, 0), (9, 0), (9, 0), (9, 0), (9, 0)] [] s.heap [] ((lg_sl [Value.ref b] ++ List.replicate (7 - (lg_sl [Value.ref b]).length) Slot.unset).toArray) :=
    ⟨⟨by rw [hE1]; rfl, fun k c n h => (by cases h)⟩, fun k c n j h => (by cases h), va_S.rf, hLs, rfl, hvs, fun v hv => absurd hv List.not_mem_nil⟩
  refine pm_sound hst n 1000 mL_law 0 _ [] [] _ _ S' M' hrun p e room_1 s m _ below meth c s.heap [] _ 0 0 _ C Y (by rw [Nat.zero_add]; exact Nat.le_trans (Nat.sub_le _ _) hS1) (by rw [Nat.zero_add]; exact Nat.le_trans (Nat.sub_le _ _) hS2) ?_
  intro pcT ST lsT stT H' locs' Ls' hT hz1 hz2 Y'
  rcases hT with ⟨rfl, h | h | h⟩ | ⟨-, j, -, -, -, h, -⟩
  · obtain ⟨x, hdg, rfl, hrx, -⟩ := h
    cases hrx
    refine va_forget (fun q hq => by rw [← hE1]; exact Y'.2.2.1.2.2 q hq) ?_
    refine W.widen (k := 601024) (n := 7293034) (by rw [Nat.zero_add]; exact Nat.le_trans (Nat.sub_le _ _) hS1) (by rw [Nat.zero_add]; exact Nat.le_trans (Nat.sub_le _ _) hS2) ?_
    exact lw_ret hx hb hr hlocks hdg
  · obtain ⟨x, -, -, hrx, -⟩ := h
    cases hrx
  · obtain ⟨-, -, hrx, -⟩ := h
    cases hrx
  · cases h

/-! a run of the small machine is a run of the machine -/
theorem pm_entL (E : pm_E) : ∀ (as : List pm_V), (lg_sl (as.map (pm_v E))).length = (as.flatMap (fun v => if v.1 = 1 then [v, ((9, 0) : pm_V)] else [v])).length ∧ ∀ (i : Nat) (v : pm_V), (as.flatMap (fun v => if v.1 = 1 then [v, ((9, 0) : pm_V)] else [v]))[i]? = some v → v.1 ≠ 9 → (lg_sl (as.map (pm_v E)))[i]? = some (.val (pm_v E v)) := by
  intro as
  induction as with
  | nil => exact ⟨rfl, fun i v h => by simp at h⟩
  | cons a as ih =>
    obtain ⟨h1, h2⟩ := ih
    have e1 : lg_sl ((a :: as).map (pm_v E)) = (if (pm_v E a).category = 2 then [Slot.val (pm_v E a), .second] else [.val (pm_v E a)]) ++ lg_sl (as.map (pm_v E)) := rfl
    have e2 : (a :: as).flatMap (fun v => if v.1 = 1 then [v, ((9, 0) : pm_V)] else [v]) = (if a.1 = 1 then [a, (9, 0)] else [a]) ++ as.flatMap (fun v => if v.1 = 1 then [v, ((9, 0) : pm_V)] else [v]) := rfl
    rw [e1, e2, pm_cat]
    by_cases ha : a.1 = 1
    · rw [if_pos ha, if_pos ha, if_pos rfl]
      refine ⟨by simp only [List.cons_append, List.nil_append, List.length_cons, h1], fun i v hi h9 => ?_⟩
      match i with
      | 0 => cases hi; rfl
      | 1 => cases hi; exact absurd rfl h9
      | i + 2 => exact h2 i v hi h9
    · rw [if_neg ha, if_neg ha, if_neg (by decide)]
      refine ⟨by simp only [List.cons_append, List.nil_append, List.length_cons, h1], fun i v hi h9 => ?_⟩
      match i with
      | 0 => cases hi; rfl
      | i + 1 => exact h2 i v hi h9
theorem pm_entS (E : pm_E) (n : Nat) (as : List pm_V) (h : (pm_ent n as).length = n) : pm_L E (pm_ent n as) ((lg_sl (as.map (pm_v E)) ++ List.replicate (n - (lg_sl (as.map (pm_v E))).length) Slot.unset).toArray) := by
  obtain ⟨h1, h2⟩ := pm_entL E as
  have hle : (as.flatMap (fun v => if v.1 = 1 then [v, ((9, 0) : pm_V)] else [v])).length ≤ n := by
    unfold pm_ent at h
    simp only [List.length_append, List.length_replicate] at h
    omega
  have hl := lv_entry (as.map (pm_v E)) (n := n) (by omega)
  refine ⟨by rw [h]; exact hl.1, hl.2.1, fun i v hi h9 => ?_⟩
  unfold pm_ent at hi
  simp only [] at hi
  by_cases hlt : i < (as.flatMap (fun v => if v.1 = 1 then [v, ((9, 0) : pm_V)] else [v])).length
  · rw [List.getElem?_append_left hlt] at hi
    rw [List.getElem?_toArray, List.getElem?_append_left (by omega)]
    exact h2 i v hi h9
  · rw [List.getElem?_append_right (by omega), List.getElem?_replicate] at hi
    split at hi
    · cases hi
      exact absurd rfl h9
    · cases hi
theorem pm_entI {n : Nat} {as : List pm_V} (h : ∀ v ∈ as, pm_in v) : ∀ v ∈ pm_ent n as, pm_in v := by
  intro v hv
  have h9 : pm_in (9, 0) := pm_inx (by decide) (by decide)
  unfold pm_ent at hv
  simp only [List.mem_append, List.mem_flatMap] at hv
  rcases hv with ⟨a, ha, hv⟩ | hv
  · split at hv
    · rcases List.mem_cons.mp hv with rfl | hv
      · exact h _ ha
      · rw [List.mem_singleton.mp hv]; exact h9
    · rw [List.mem_singleton.mp hv]; exact h _ ha
  · rw [(List.mem_replicate.mp hv).2]; exact h9
def pm_ws (me : pm_Me) : List Cond := Cond.code me.1 me.2.1 me.2.2.2.1 (pm_ret me.2.2.2.2.1) :: pm_GW
def pm_rm (d mc ms : Nat) : Room := { frames := d, cells := mc, slots := ms, locals := 64 * d }
/-- a method's start: the heap, and what the tables say -/
def pm_Pc (E : pm_E) (D : va_G) (cs : Nat → ClassId) (sc : Nat × (Nat → Int)) (as : List pm_V) (S : pm_S) (M : pm_M) : Array Value → State → Prop := va_Pc (as.map (pm_v E)) (fun U => pm_R E D cs S M U.heap ∧ pm_G S M ∧ pm_K E D cs sc U U.heap)
/-- its end -/
def pm_Qc (E : pm_E) (D : va_G) (cs : Nat → ClassId) (r : Option pm_V) (S' : pm_S) (M' : pm_M) : Array Value → State → Outcome → State → Prop := fun _ st oc t => oc = .returned (r.map (pm_v E)) ∧ pm_R E D cs S' M' t.heap ∧ pm_G S' M' ∧ (∀ v, r = some v → pm_in v) ∧ va_F (pm_A E) st t
/-- what a run of n steps says of the machine -/
def pm_Sn (E : pm_E) (D : va_G) (cs : Nat → ClassId) (sc : Nat × (Nat → Int)) (l : Launch) (n : Nat) : Prop :=
  ∀ (d : Nat) (me : pm_Me) (pc : Nat) (ls st : List pm_V) (S : pm_S) (M : pm_M) (r : Option pm_V) (S' : pm_S) (M' : pm_M), pm_X sc n d me pc ls st S M = some (r, S', M') →
    ∀ (p : Program) (e : Env) (R : Room) (s : State) (m : MethodId) (args : Array Value) (below : List Frame) (meth : Method) (c : Code) (H : Heap) (locs : List Loc) (Ls : Array Slot) (cells slots : Nat) (Q : State → Prop),
      pm_C E D cs sc p R s m args meth c me d → pm_Y E D cs s me S M ls st H locs Ls → cells + (S'.length - S.length) ≤ R.cells → slots + (pm_sz S' - pm_sz S) ≤ R.slots →
      (∀ (pcT : Nat) (ST : pm_S) (lsT stT : List pm_V) (H' : Heap) (locs' : List Loc) (Ls' : Array Slot), pm_Tm me pcT stT ST r S' → S.length ≤ ST.length → pm_sz S ≤ pm_sz ST → pm_Y E D cs s me ST M' lsT stT H' locs' Ls' →
        W p l e R s m args below meth c H' locs' (cells + (ST.length - S.length)) (slots + (pm_sz ST - pm_sz S)) Q (F0 m pcT Ls' (stT.map (pm_v E)))) →
      W p l e R s m args below meth c H locs cells slots Q (F0 m pc Ls (st.map (pm_v E)))
theorem pm_nchar {x : Int} (h : 0 ≤ x ∧ x < 65536) : narrow .char (.int (Int32.ofInt x)) = .int (Int32.ofInt x) := by
  show Value.int (Int32.ofInt x).toUInt32.toUInt16.toUInt32.toInt32 = _
  congr 1
  apply pm_e32
  have h1 : (Int32.ofInt x).toUInt32.toNat = x.toNat := by
    show (BitVec.ofInt 32 x).toNat = _
    rw [BitVec.toNat_ofInt]
    show (x % 4294967296).toNat = x.toNat
    omega
  have h2 : (Int32.ofInt x).toUInt32.toUInt16.toUInt32.toNat = x.toNat := by
    rw [UInt16.toNat_toUInt32, UInt32.toNat_toUInt16, h1]
    omega
  have h3 : (Int32.ofInt x).toUInt32.toUInt16.toUInt32.toInt32.toInt = (((Int32.ofInt x).toUInt32.toUInt16.toUInt32.toNat : Nat) : Int).bmod 4294967296 := by
    show ((Int32.ofInt x).toUInt32.toUInt16.toUInt32.toBitVec).toInt = _
    rw [BitVec.toInt_eq_toNat_bmod]
    rfl
  rw [h3, h2, Int.bmod_def]
  split <;> omega
section PMN
variable {E : pm_E} {D : va_G} {cs : Nat → ClassId} {sc : Nat × (Nat → Int)} {l : Launch} {n : Nat}
theorem pm_goodGW : GoodIn pm_GW pm_GW := fun w h => ⟨h, good_of_word (List.mem_filter.mp h).2⟩
theorem pm_Pc_blind {as : List pm_V} {S : pm_S} {M : pm_M} : FrameBlind (pm_Pc E D cs sc as S M) := fun a U g mk h => ⟨h.1, h.2.1, h.2.2.1, h.2.2.2.same (s := U) (U := U.calling g mk a) rfl⟩
/-- a method, by its run -/
theorem pm_met (ih : pm_Sn E D cs sc l n) {d : Nat} {me : pm_Me} {as : List pm_V} {S : pm_S} {M : pm_M} {r : Option pm_V} {S' : pm_S} {M' : pm_M} (hX : pm_X sc n d me 0 (pm_ent me.2.2.2.1 as) [] S M = some (r, S', M')) (h7 : r.map Prod.fst ≠ some 7)
    (hlen : (pm_ent me.2.2.2.1 as).length = me.2.2.2.1) (has : ∀ v ∈ as, pm_in v) (hd : 18 ≤ d) (hy : plainName me.1.cls = true) (hcl : me.1.cls = pm_own me.2.2.1) (hini : (me.2.2.2.2.2.2 = 2 ∨ me.2.2.2.2.2.2 = 12) → me.1.name = "<init>") :
    Met l me.1 (pm_ws me) (pm_rm d (S'.length - S.length) (pm_sz S' - pm_sz S)) (pm_Pc E D cs sc as S M) (pm_Qc E D cs r S' M') (S'.length - S.length) (pm_sz S' - pm_sz S) (pm_A E) := by
  refine Met.ofW (cc := me.2.1) (maxL := me.2.2.2.1) (ret := pm_ret me.2.2.2.2.1) hy rfl ?_
  intro p e s m args below meth c s₁ B hml hv
  obtain ⟨rfl, hR, hG, hK⟩ := hv
  have hts : ∀ w ∈ pm_ws me, w.before (as.map (pm_v E)).toArray s = true := atoms_spec (ws := pm_ws me) B.pre
  have hlocks := B.notSynchronized
  have hr := B.returns
  have C : pm_C E D cs sc p (headSpec (pm_ws me) (pm_rm d (S'.length - S.length) (pm_sz S' - pm_sz S))).room s m (as.map (pm_v E)).toArray meth c me d :=
    ⟨B.exec, B.bytes, hml, by rw [← hcl]; exact findClass_of_methodNamed B.named, fun w hw => hts w (List.mem_cons_of_mem _ hw), hK, fun h => (name_of_methodNamed B.named B.method).1.trans (hini h), Nat.le_refl _, Nat.le_refl _, hd⟩
  rw [lg_entry_eq]
  have Y : pm_Y E D cs s me S M (pm_ent me.2.2.2.1 as) [] s.heap [] ((lg_sl (as.map (pm_v E)) ++ List.replicate (me.2.2.2.1 - (lg_sl (as.map (pm_v E))).length) Slot.unset).toArray) :=
    ⟨hR, hG, va_S.rf, pm_entS E _ as hlen, hlen, pm_entI has, fun v hv => absurd hv List.not_mem_nil⟩
  refine ih d me 0 _ [] S M r S' M' hX p e _ s m _ below meth c s.heap [] _ 0 0 _ C Y (by rw [Nat.zero_add]; exact Nat.le_refl _) (by rw [Nat.zero_add]; exact Nat.le_refl _) ?_
  intro pcT ST lsT stT H' locs' Ls' hT hz1 hz2 Y'
  have hq : ∀ t : State, t.heap = H' → S' = ST → (∀ v, r = some v → pm_in v) → pm_Qc E D cs r S' M' (as.map (pm_v E)).toArray s (.returned (r.map (pm_v E))) t := fun t ht hS hri => ⟨rfl, by rw [ht, hS]; exact Y'.1, by rw [hS]; exact Y'.2.1, hri, Y'.2.2.1.F ht⟩
  rw [Nat.zero_add, Nat.zero_add]
  rcases hT with ⟨rfl, h | h | h⟩ | ⟨-, j, -, -, -, rfl, -⟩
  · obtain ⟨x, hdg, rfl, rfl, hk⟩ := h
    have hx : pm_in (0, x) := Y'.2.2.2.2.2.2 _ List.mem_cons_self
    have hri : ∀ v, some ((0, x) : pm_V) = some v → pm_in v := fun v hv => by cases hv; exact hx
    have hxr := hx.1 rfl
    rcases hk with hk | ⟨hk, hk2⟩ | ⟨hk, hk2⟩ | ⟨hk, hk2⟩
    · rw [hk] at hr
      exact W.iret (v := Int32.ofInt x) C.1 C.2.1 hr (fun t ht _ => hq t ht rfl hri) Y'.2.2.1.2.2 hdg
    · rw [hk] at hr
      exact W.zret (v := Int32.ofInt x) (ty := .boolean) C.1 C.2.1 hr (by rcases hk2 with rfl | rfl <;> rfl) (fun t ht _ => hq t ht rfl hri) Y'.2.2.1.2.2 hdg
    · rw [hk] at hr
      exact W.zret (v := Int32.ofInt x) (ty := .char) C.1 C.2.1 hr (pm_nchar hk2) (fun t ht _ => hq t ht rfl hri) Y'.2.2.1.2.2 hdg
    · rw [hk] at hr
      exact W.zret (v := Int32.ofInt x) (ty := .byte) C.1 C.2.1 hr (by
        show Value.int (Int32.ofInt x).toInt8.toInt32 = _
        rw [pm_i2b]
        congr 2
        unfold w8
        omega) (fun t ht _ => hq t ht rfl hri) Y'.2.2.1.2.2 hdg
  · obtain ⟨x, hdg, rfl, rfl, hk⟩ := h
    rw [hk] at hr
    exact W.lret (v := Int64.ofInt x) C.1 C.2.1 hr (fun t ht _ => hq t ht rfl (fun v hv => by cases hv; exact Y'.2.2.2.2.2.2 _ List.mem_cons_self)) Y'.2.2.1.2.2 hdg
  · obtain ⟨hdg, rfl, rfl, hk⟩ := h
    rw [hk] at hr
    exact W.vret C.1 C.2.1 hr (fun t ht _ => hq t ht rfl (fun v hv => by cases hv)) Y'.2.2.1.2.2 hdg
  · exact absurd rfl h7
end PMN

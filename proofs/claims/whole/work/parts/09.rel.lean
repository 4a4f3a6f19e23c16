/-! what the machine's heap, locals and tables have to do with the small machine's -/
/-- base, the script's cell, the texts' cells, their bytes' cells, a static that nobody reads -/
abbrev pm_E : Type := Nat × Nat × (Nat → Nat) × (Nat → Nat) × Option Nat
def pm_v (E : pm_E) (v : pm_V) : Value := match v.1 with
  | 0 => .int (Int32.ofInt v.2)
  | 1 => .long (Int64.ofInt v.2)
  | 2 => if v.2 < 0 then .null else .ref (E.1 + v.2.toNat)
  | 3 => .ref (E.2.2.1 v.2.toNat)
  | 5 => .ref (E.2.2.2.1 v.2.toNat)
  | 6 => va_rf E.2.2.2.2
  | _ => .ref E.2.1
def pm_in (v : pm_V) : Prop := (v.1 = 0 → -2147483648 ≤ v.2 ∧ v.2 < 2147483648) ∧ (v.1 = 1 → -9223372036854775808 ≤ v.2 ∧ v.2 < 9223372036854775808)
def pm_ka : Nat → FieldType := fun k => match k with
  | 13 => .byte
  | 14 => .int
  | 15 => .long
  | 16 => .boolean
  | _ => .array .int
def pm_A (E : pm_E) : Nat → Prop := fun q => E.1 ≤ q
def pm_cell (E : pm_E) (D : va_G) (cs : Nat → ClassId) (H : Heap) (k c n : Nat) (f : Nat → Int) : Prop :=
  if c < 13 then t_OB (E.1 + k) (D.1 c) (pm_N c) (D.2 c) H (fun j => pm_v E (pm_ft c j, f j))
  else if c < 18 then H[E.1 + k]? = some (arrV (cs c) n (fun j => pm_v E (pm_kt c, f j)))
  else True
def pm_R (E : pm_E) (D : va_G) (cs : Nat → ClassId) (S : pm_S) (M : pm_M) (H : Heap) : Prop := H.size = E.1 + S.length ∧ ∀ k c n, S[k]? = some (c, n) → pm_cell E D cs H k c n (M k)
def pm_G (S : pm_S) (M : pm_M) : Prop := ∀ k c n j, S[k]? = some (c, n) → pm_in (pm_tg c j, M k j)
def pm_L (E : pm_E) (ls : List pm_V) (Ls : Array Slot) : Prop := Ls.size = ls.length ∧ lv_wf Ls ∧ ∀ (i : Nat) (v : pm_V), ls[i]? = some v → v.1 ≠ 9 → Ls[i]? = some (.val (pm_v E v))
def pm_len : List Nat := [5, 6, 9, 2, 5, 6, 4, 4, 5, 4]
def pm_byt : List (List Int32) := [[43, 45, 42, 47, 37], [61, 40, 41, 123, 125, 59], [120, 121, 122, 97, 98, 99, 100, 101, 102], [105, 102], [119, 104, 105, 108, 101], [114, 101, 116, 117, 114, 110], [101, 108, 115, 101], [116, 101, 115, 116], [103, 105, 118, 101, 115], [104, 101, 108, 100]]
def pm_nse : String := "java/util/NoSuchElementException"
def pm_nss : List String := ["java/lang/RuntimeException", "java/lang/Exception"]
/-- what the tables and what lies below the base say -/
def pm_K (E : pm_E) (D : va_G) (cs : Nat → ClassId) (sc : Nat × (Nat → Int)) (U : State) (H : Heap) : Prop :=
  (∀ c, c < 13 → u_Kn U (pm_own c) (pm_T c) (pm_N c) (D.1 c) (D.2 c)) ∧
  (∀ c, 13 ≤ c → c < 18 → ArrOfT U (cs c) (pm_ka c) ∧ U.vm.findClass ("[" ++ (pm_ka c).toString) = some (cs c)) ∧
  (va_Nw (.methodLinkNest RX11 15 yX0_init RX11) U ∧ va_Nw (.methodLinkNest RX11 22 yX8_init RX11) U ∧ (Cond.arrayOver (.array .int)).before #[] U = true ∧ (va_Nw (.castable pm_nse pm_nse) U ∧ va_Nw (.declares (Bundle.initS "java/lang/RuntimeException")) U ∧ va_Nw (.declares (Bundle.initS "java/lang/Exception")) U ∧ va_Nw (.declares (Bundle.initS Bundle.tN)) U)) ∧
  (∀ i e, pm_str[i]? = some e → vk_R (pm_own e.1) e.2.1 e.2.2.1 (E.2.2.1 i) U) ∧
  (vk_S 10 pm_len pm_byt E.2.2.1 E.2.2.2.1 (pm_A E) U H ∧ va_Z "jdk/internal/util/Preconditions" "SIOOBE_FORMATTER" "Ljava/util/function/BiFunction;" (va_rf E.2.2.2.2) (pm_A E) U H) ∧
  (va_Z "java/lang/String" "COMPACT_STRINGS" "Z" (.int 1) (pm_A E) U H ∧ vx_Zq Bundle.tN "UNASSIGNED_STACK" Bundle.steD (pm_A E) U H ∧ vx_Zq Bundle.tN "SUPPRESSED_SENTINEL" Bundle.listD (pm_A E) U H) ∧
  (va_X E.2.1 sc.1 (fun j => Int32.ofInt (sc.2 j)) U H ∧ E.2.1 < E.1 ∧ E.1 ≤ H.size ∧ sc.1 ≤ 3072 ∧ ∀ j, pm_in (0, sc.2 j))
theorem pm_K.go {E : pm_E} {D : va_G} {cs : Nat → ClassId} {sc : Nat × (Nat → Int)} {s U : State} {H0 H : Heap} (h : pm_K E D cs sc s H0) (hW : s.WarmedH U.vm) (hz : H0.size ≤ H.size) (hq : ∀ q : Nat, q < H0.size → ¬ pm_A E q → H[q]? = H0[q]?) : pm_K E D cs sc U H := by
  obtain ⟨h1, h2, ⟨h3, h4, h5, hx1, hx2, hx3, hx4⟩, h6, ⟨h7, h7b⟩, ⟨h8, h9, h10⟩, h11, h12, h13, h14⟩ := h
  refine ⟨fun c hc => u_Kn_moved hW.alike (h1 c hc), fun c a b => ⟨arrOfT_moved hW.alike (h2 c a b).1, by rw [hW.alike.findClass]; exact (h2 c a b).2⟩, ⟨va_Nw.warmM hW h3, va_Nw.warmM hW h4, over_moved hW.alike h5, va_Nw.warmC hW hx1, va_Nw.warmD hW hx2, va_Nw.warmD hW hx3, va_Nw.warmD hW hx4⟩, fun i e hi => (h6 i e hi).warm hW, ⟨(h7.moved hW.alike).kept hq, (h7b.moved hW.alike).kept hq⟩, ⟨(h8.moved hW.alike).kept hq, (h9.moved hW.alike).kept hq, (h10.moved hW.alike).kept hq⟩, (h11.moved hW.alike).kept (hq _ (by omega) (fun q => Nat.not_le.mpr h12 q)), h12, by omega, h14⟩
theorem pm_K.same {E : pm_E} {D : va_G} {cs : Nat → ClassId} {sc : Nat × (Nat → Int)} {s U : State} {H : Heap} (h : pm_K E D cs sc s H) (hv : U.vm = s.vm) : pm_K E D cs sc U H := by
  have hal : s.vm.Alike U.vm := by rw [hv]; exact Vm.Alike.refl _
  obtain ⟨h1, h2, ⟨h3, h4, h5, hx1, hx2, hx3, hx4⟩, h6, ⟨h7, h7b⟩, ⟨h8, h9, h10⟩, h11, h12⟩ := h
  exact ⟨fun c hc => u_Kn_moved hal (h1 c hc), fun c a b => ⟨arrOfT_moved hal (h2 c a b).1, by rw [hal.findClass]; exact (h2 c a b).2⟩, ⟨va_Nw.same rfl hv.symm h3, va_Nw.same rfl hv.symm h4, over_moved hal h5, va_Nw.same rfl hv.symm hx1, va_Nw.same rfl hv.symm hx2, va_Nw.same rfl hv.symm hx3, va_Nw.same rfl hv.symm hx4⟩, fun i e hi => (h6 i e hi).same hv, ⟨h7.moved hal, h7b.moved hal⟩, ⟨h8.moved hal, h9.moved hal, h10.moved hal⟩, h11.moved hal, h12⟩
theorem pm_cell.kept {E : pm_E} {D : va_G} {cs : Nat → ClassId} {H H1 : Heap} {k c n : Nat} {f g : Nat → Int} (h : pm_cell E D cs H k c n f) (hq : H1[E.1 + k]? = H[E.1 + k]?) (hf : f = g) : pm_cell E D cs H1 k c n g := by
  subst hf
  unfold pm_cell at h ⊢
  split
  · rw [if_pos ‹_›] at h
    exact h.kept hq
  · rw [if_neg ‹_›] at h
    split
    · rw [if_pos ‹_›] at h
      exact hq.trans h
    · trivial
theorem pm_R.put {E : pm_E} {D : va_G} {cs : Nat → ClassId} {S : pm_S} {M M' : pm_M} {H H1 : Heap} (h : pm_R E D cs S M H) {k c n : Nat} (hk : S[k]? = some (c, n)) (hz : H1.size = H.size) (hq : ∀ q : Nat, q ≠ E.1 + k → H1[q]? = H[q]?) (hc : pm_cell E D cs H1 k c n (M' k)) (hM : ∀ b, b ≠ k → M' b = M b) : pm_R E D cs S M' H1 := by
  refine ⟨hz.trans h.1, fun k' c' n' hk' => ?_⟩
  by_cases e : k' = k
  · subst e
    cases hk.symm.trans hk'
    exact hc
  · exact (h.2 k' c' n' hk').kept (hq _ (by omega)) (hM k' e).symm
theorem pm_R.new {E : pm_E} {D : va_G} {cs : Nat → ClassId} {S : pm_S} {M M' : pm_M} {H H1 : Heap} (h : pm_R E D cs S M H) {c n : Nat} (hz : H1.size = H.size + 1) (hq : ∀ q : Nat, q < H.size → H1[q]? = H[q]?) (hc : pm_cell E D cs H1 S.length c n (M' S.length)) (hM : ∀ b, b < S.length → M' b = M b) : pm_R E D cs (S ++ [(c, n)]) M' H1 := by
  refine ⟨by rw [hz, h.1, List.length_append]; rfl, fun k' c' n' hk' => ?_⟩
  by_cases e : k' < S.length
  · rw [List.getElem?_append_left e] at hk'
    exact (h.2 k' c' n' hk').kept (hq _ (by have := h.1; omega)) (hM k' e).symm
  · have hl := (List.getElem?_eq_some_iff.mp hk').1
    have he : k' = S.length := by rw [List.length_append] at hl; simp only [List.length_cons, List.length_nil] at hl; omega
    subst he
    simp at hk'
    obtain ⟨rfl, rfl⟩ := hk'
    exact hc
theorem pm_G.put {S : pm_S} {M : pm_M} (h : pm_G S M) {a i c n : Nat} {v : Int} (ha : S[a]? = some (c, n)) (hv : pm_in (pm_tg c i, v)) : pm_G S (pm_up M a i v) := by
  intro k c' n' j hk
  unfold pm_up
  by_cases e : k = a ∧ j = i
  · rw [if_pos e]
    obtain ⟨rfl, rfl⟩ := e
    cases ha.symm.trans hk
    exact hv
  · rw [if_neg e]
    exact h k c' n' j hk
theorem pm_G.new {S : pm_S} {M : pm_M} (h : pm_G S M) {c n : Nat} {f : Nat → Int} (hf : ∀ j, pm_in (pm_tg c j, f j)) : pm_G (S ++ [(c, n)]) (pm_nw M S.length f) := by
  intro k c' n' j hk
  by_cases e : k < S.length
  · rw [List.getElem?_append_left e] at hk
    show pm_in (_, if k = S.length then f j else M k j)
    rw [if_neg (by omega)]
    exact h k c' n' j hk
  · have hl := (List.getElem?_eq_some_iff.mp hk).1
    have he : k = S.length := by rw [List.length_append] at hl; simp only [List.length_cons, List.length_nil] at hl; omega
    subst he
    simp at hk
    obtain ⟨rfl, rfl⟩ := hk
    show pm_in (_, if S.length = S.length then f j else M S.length j)
    rw [if_pos rfl]
    exact hf j
theorem pm_up_ne {M : pm_M} {a i : Nat} {v : Int} {b : Nat} (h : b ≠ a) : pm_up M a i v b = M b := by
  funext j
  exact if_neg (fun q => h q.1)
theorem pm_nw_ne {M : pm_M} {a : Nat} {f : Nat → Int} {b : Nat} (h : b ≠ a) : pm_nw M a f b = M b := by
  funext j
  exact if_neg h
theorem pm_nw_eq {M : pm_M} {a : Nat} {f : Nat → Int} : pm_nw M a f a = f := by
  funext j
  exact if_pos rfl
/-- the locals as the kit lists them -/
def pm_ll (E : pm_E) (ls : List pm_V) : List (Nat × Value) := (List.range ls.length).filterMap (fun i => match ls[i]? with
  | some v => if v.1 = 9 then none else some (i, pm_v E v)
  | none => none)
theorem pm_ll_mem {E : pm_E} {ls : List pm_V} {q : Nat × Value} : q ∈ pm_ll E ls ↔ ∃ v, ls[q.1]? = some v ∧ v.1 ≠ 9 ∧ q.2 = pm_v E v := by
  unfold pm_ll
  rw [List.mem_filterMap]
  constructor
  · rintro ⟨i, -, h⟩
    cases hv : ls[i]? with
    | none => rw [hv] at h; cases h
    | some v =>
      rw [hv] at h
      simp only at h
      split at h
      · cases h
      · cases h
        exact ⟨v, hv, ‹_›, rfl⟩
  · rintro ⟨v, h1, h2, h3⟩
    refine ⟨q.1, List.mem_range.mpr (List.getElem?_eq_some_iff.mp h1).1, ?_⟩
    rw [h1]
    simp only [h2, if_false]
    rw [← h3]
theorem pm_L.has {E : pm_E} {ls : List pm_V} {Ls : Array Slot} (h : pm_L E ls Ls) : lv_has Ls ls.length (pm_ll E ls) := by
  refine ⟨h.1, h.2.1, fun q hq => ?_⟩
  obtain ⟨v, h1, h2, h3⟩ := pm_ll_mem.mp hq
  rw [h.2.2 _ _ h1 h2, h3]
theorem pm_cat (E : pm_E) (v : pm_V) : (pm_v E v).category = if v.1 = 1 then 2 else 1 := by
  obtain ⟨t, x⟩ := v
  unfold pm_v
  match t with
  | 0 => rfl
  | 1 => rfl
  | 2 =>
    show (if x < 0 then Value.null else Value.ref (E.1 + x.toNat)).category = 1
    split <;> rfl
  | 3 => rfl
  | 4 => rfl
  | 5 => rfl
  | 6 =>
    show (va_rf E.2.2.2.2).category = 1
    cases E.2.2.2.2 <;> rfl
  | n + 7 =>
    show (Value.ref E.2.1).category = if n + 7 = 1 then 2 else 1
    rw [if_neg (by omega)]
    rfl
theorem pm_st1_len (ls : List pm_V) (i : Nat) (v : pm_V) : (pm_st1 ls i v).length = ls.length := by
  unfold pm_st1
  split <;> simp
theorem pm_st1_get {ls : List pm_V} {i j : Nat} {v w : pm_V} (hi : i < ls.length) (h : (pm_st1 ls i v)[j]? = some w) (h9 : w.1 ≠ 9) : (j = i ∧ w = v) ∨ (j ≠ i ∧ ls[j]? = some w ∧ ¬ (j + 1 = i ∧ w.1 = 1)) := by
  unfold pm_st1 at h
  by_cases e : j = i
  · subst e
    left
    rw [List.getElem?_set_self (by split <;> simpa using hi)] at h
    exact ⟨rfl, (Option.some.inj h).symm⟩
  · right
    refine ⟨e, ?_⟩
    rw [List.getElem?_set_ne (fun q => e q.symm)] at h
    by_cases c : i ≠ 0 ∧ (ls[i - 1]?).map Prod.fst = some 1
    · rw [if_pos c] at h
      by_cases e2 : j = i - 1
      · subst e2
        rw [List.getElem?_set_self (by omega)] at h
        cases h
        exact absurd rfl h9
      · rw [List.getElem?_set_ne (fun q => e2 q.symm)] at h
        exact ⟨h, fun q => e2 (by omega)⟩
    · rw [if_neg c] at h
      refine ⟨h, fun q => c ⟨by omega, ?_⟩⟩
      rw [show i - 1 = j by omega, h]
      exact congrArg some q.2
theorem pm_L.st1 {E : pm_E} {ls : List pm_V} {Ls Ls' : Array Slot} {i : Nat} {v : pm_V} (hi : i < ls.length) (h : lv_has Ls' ls.length ((i, pm_v E v) :: (pm_ll E ls).filter (fun q => !(q.1 == i) && !(q.1 + 1 == i && q.2.category == 2)))) : pm_L E (pm_st1 ls i v) Ls' := by
  refine ⟨by rw [pm_st1_len]; exact h.1, h.2.1, fun j w hj h9 => ?_⟩
  rcases pm_st1_get hi hj h9 with ⟨rfl, rfl⟩ | ⟨e1, e2, e3⟩
  · exact h.2.2 _ List.mem_cons_self
  · refine h.2.2 (j, pm_v E w) (List.mem_cons_of_mem _ (List.mem_filter.mpr ⟨pm_ll_mem.mpr ⟨w, e2, h9, rfl⟩, ?_⟩))
    simp only [Bool.and_eq_true, Bool.not_eq_true', beq_eq_false_iff_ne, ne_eq, Bool.and_eq_false_iff]
    refine ⟨e1, ?_⟩
    by_cases e4 : j + 1 = i
    · right
      rw [pm_cat]
      split
      · exact absurd ⟨e4, ‹_›⟩ e3
      · decide
    · exact Or.inl e4
theorem pm_L.st2 {E : pm_E} {ls : List pm_V} {Ls Ls' : Array Slot} {i : Nat} {v : pm_V} (hi : i + 1 < ls.length) (h : lv_has Ls' ls.length ((i, pm_v E v) :: (pm_ll E ls).filter (fun q => !(q.1 == i) && (!(q.1 == i + 1) && !(q.1 + 1 == i && q.2.category == 2))))) : pm_L E (pm_st2 ls i v) Ls' := by
  refine ⟨by unfold pm_st2; rw [List.length_set, pm_st1_len]; exact h.1, h.2.1, fun j w hj h9 => ?_⟩
  unfold pm_st2 at hj
  by_cases e0 : j = i + 1
  · subst e0
    rw [List.getElem?_set_self (by rw [pm_st1_len]; exact hi)] at hj
    cases hj
    exact absurd rfl h9
  rw [List.getElem?_set_ne (fun q => e0 q.symm)] at hj
  rcases pm_st1_get (by omega) hj h9 with ⟨rfl, rfl⟩ | ⟨e1, e2, e3⟩
  · exact h.2.2 _ List.mem_cons_self
  · refine h.2.2 (j, pm_v E w) (List.mem_cons_of_mem _ (List.mem_filter.mpr ⟨pm_ll_mem.mpr ⟨w, e2, h9, rfl⟩, ?_⟩))
    simp only [Bool.and_eq_true, Bool.not_eq_true', beq_eq_false_iff_ne, ne_eq, Bool.and_eq_false_iff]
    refine ⟨e1, e0, ?_⟩
    by_cases e4 : j + 1 = i
    · right
      rw [pm_cat]
      split
      · exact absurd ⟨e4, ‹_›⟩ e3
      · decide
    · exact Or.inl e4
theorem pm_in_st1 {ls : List pm_V} {i : Nat} {v : pm_V} (h : ∀ w ∈ ls, pm_in w) (hv : pm_in v) : ∀ w ∈ pm_st1 ls i v, pm_in w := by
  intro w hw
  unfold pm_st1 at hw
  rcases List.mem_or_eq_of_mem_set hw with h1 | h1
  · split at h1
    · rcases List.mem_or_eq_of_mem_set h1 with h2 | h2
      · exact h w h2
      · rw [h2]; exact ⟨fun q => (by cases q), fun q => (by cases q)⟩
    · exact h w h1
  · rw [h1]; exact hv
theorem pm_in_st2 {ls : List pm_V} {i : Nat} {v : pm_V} (h : ∀ w ∈ ls, pm_in w) (hv : pm_in v) : ∀ w ∈ pm_st2 ls i v, pm_in w := by
  intro w hw
  unfold pm_st2 at hw
  rcases List.mem_or_eq_of_mem_set hw with h1 | h1
  · exact pm_in_st1 h hv w h1
  · rw [h1]; exact ⟨fun q => (by cases q), fun q => (by cases q)⟩
theorem pm_in0 {x : Int} (h : -2147483648 ≤ x ∧ x < 2147483648) : pm_in (0, x) := ⟨fun _ => h, fun q => (by cases q)⟩
theorem pm_in1 {x : Int} (h : -9223372036854775808 ≤ x ∧ x < 9223372036854775808) : pm_in (1, x) := ⟨fun q => (by cases q), fun _ => h⟩
theorem pm_inx {t : Nat} {x : Int} (h0 : t ≠ 0) (h1 : t ≠ 1) : pm_in (t, x) := ⟨fun q => absurd q h0, fun q => absurd q h1⟩
theorem pm_sz_app (S T : pm_S) : pm_sz (S ++ T) = pm_sz S + pm_sz T := by
  induction S with
  | nil => simp [pm_sz]
  | cons q S ih => simp only [List.cons_append, pm_sz, ih]; omega
theorem pm_sum (E : pm_E) (st : List pm_V) (h : st.length ≤ 4) : ((st.map (pm_v E)).map fun v => v.category).sum ≤ 8 := by
  have : ∀ t : List pm_V, ((t.map (pm_v E)).map fun v => v.category).sum ≤ 2 * t.length := by
    intro t
    induction t with
    | nil => simp
    | cons v t ih =>
      simp only [List.map_cons, List.sum_cons, List.length_cons]
      have h1 : (pm_v E v).category ≤ 2 := by rw [pm_cat]; split <;> omega
      omega
  have := this st
  omega
theorem pm_clK {cl : Nat} (h : cl < 13) : vwCl[cl]? = some (pm_own cl, pm_T cl, pm_N cl) := by
  match cl, h with
  | 0, _ => rfl
  | 1, _ => rfl
  | 2, _ => rfl
  | 3, _ => rfl
  | 4, _ => rfl
  | 5, _ => rfl
  | 6, _ => rfl
  | 7, _ => rfl
  | 8, _ => rfl
  | 9, _ => rfl
  | 10, _ => rfl
  | 11, _ => rfl
  | 12, _ => rfl
theorem pm_ckw {ps : List Nat} {ws : List Cond} (h : pm_ck ps ws = true) {w : Cond} (hw : w ∈ ws) : w ∈ pm_GW := by
  unfold pm_ck at h
  rw [Bool.and_eq_true] at h
  have h1 := of_decide_eq_true h.1
  have h2 : some w ∈ ps.map (fun p => lw_tbl[p]?) := by rw [h1]; exact List.mem_map.mpr ⟨w, hw, rfl⟩
  obtain ⟨p, -, hp⟩ := List.mem_map.mp h2
  exact List.mem_filter.mpr ⟨List.mem_of_getElem? hp, List.all_eq_true.mp h.2 w hw⟩
theorem pm_lays {c : Nat} (h : c < 13) : ∀ w ∈ u_ws (pm_own c) (pm_T c) (pm_N c), w ∈ pm_GW := by
  intro w hw
  match c, h with
  | 0, _ => exact pm_ckw pm_lay0_ok hw
  | 1, _ => exact pm_ckw pm_lay1_ok hw
  | 2, _ => exact pm_ckw pm_lay2_ok hw
  | 3, _ => exact pm_ckw pm_lay3_ok hw
  | 4, _ => exact pm_ckw pm_lay4_ok hw
  | 5, _ => exact pm_ckw pm_lay5_ok hw
  | 6, _ => exact pm_ckw pm_lay6_ok hw
  | 7, _ => exact pm_ckw pm_lay7_ok hw
  | 8, _ => exact pm_ckw pm_lay8_ok hw
  | 9, _ => exact pm_ckw pm_lay9_ok hw
  | 10, _ => exact pm_ckw pm_lay10_ok hw
  | 11, _ => exact pm_ckw pm_lay11_ok hw
  | 12, _ => exact pm_ckw pm_lay12_ok hw
theorem pm_tyk {c : Nat} (h : c < 13) : ∀ k, k < pm_N c → parseFieldDescriptor (pm_T c k).2.2.1 = some (pm_ty c k) := by
  match c, h with
  | 0, _ => exact tyX0_ok
  | 1, _ => exact tyX1_ok
  | 2, _ => exact tyX2_ok
  | 3, _ => exact tyX3_ok
  | 4, _ => exact tyX4_ok
  | 5, _ => exact tyX5_ok
  | 6, _ => exact tyX6_ok
  | 7, _ => exact tyX7_ok
  | 8, _ => exact tyX8_ok
  | 9, _ => exact tyX9_ok
  | 10, _ => exact tyX10_ok
  | 11, _ => exact tyX11_ok
  | 12, _ => exact tyX12_ok
theorem pm_nmk {c : Nat} (h : c < 13) : ∀ a, a < pm_N c → ∀ b, b < pm_N c → a ≠ b → (pm_T c a).2.1 ≠ (pm_T c b).2.1 := by
  match c, h with
  | 0, _ => exact nmX0
  | 1, _ => exact nmX1
  | 2, _ => exact nmX2
  | 3, _ => exact nmX3
  | 4, _ => exact nmX4
  | 5, _ => exact nmX5
  | 6, _ => exact nmX6
  | 7, _ => exact nmX7
  | 8, _ => exact nmX8
  | 9, _ => exact nmX9
  | 10, _ => exact nmX10
  | 11, _ => exact nmX11
  | 12, _ => exact nmX12
/-- a field's type by its kind -/
def pm_fty (c k : Nat) : Bool := match pm_fk c k with
  | 0 => decide (pm_ty c k = .int)
  | 1 => decide (pm_ty c k = .long)
  | 5 => decide (pm_ty c k = .boolean)
  | _ => match pm_ty c k with
    | .object _ => true
    | .array _ => true
    | _ => false
theorem pm_fty_ok : ∀ c, c < 13 → ∀ k, k < pm_N c → pm_fty c k = true := by decide +kernel
theorem pm_fldS {o i c k : Nat} (h : pm_fld o i = some (c, k)) : c < 13 ∧ k < pm_N c ∧ Cond.fieldLink (pm_own o) i (pm_T c k).1 (pm_T c k).2.1 (pm_T c k).2.2.1 ∈ pm_GW := by
  unfold pm_fld at h
  cases he : pm_fds.find? (fun e => e.1 == o && e.2.1 == i) with
  | none => rw [he] at h; cases h
  | some e =>
    rw [he] at h
    have hm := List.mem_of_find?_eq_some he
    have hp := List.find?_some he
    simp only [Bool.and_eq_true, beq_iff_eq] at hp
    have hk := pm_fds_ok e hm
    unfold pm_ckF at hk
    simp only [Bool.and_eq_true, decide_eq_true_eq] at hk
    cases h
    refine ⟨hk.1.2, hk.2, ?_⟩
    have := pm_ckw hk.1.1 (List.mem_singleton.mpr rfl)
    rw [hp.1, hp.2] at this
    exact this
theorem pm_lnkS {o i : Nat} {me : pm_Me} (h : pm_lnk o i = some me) : (∀ w ∈ pm_req o i me, w ∈ pm_GW) ∧ pm_ckM me = true ∧ pm_cw me := by
  unfold pm_lnk at h
  cases he : pm_lks.find? (fun e => e.1 == o && e.2.1 == i) with
  | none => rw [he] at h; cases h
  | some e =>
    rw [he] at h
    have hm := List.mem_of_find?_eq_some he
    have hp := List.find?_some he
    simp only [Bool.and_eq_true, beq_iff_eq] at hp
    have hk := pm_lks_ok e hm
    unfold pm_ckL at hk
    rw [Bool.and_eq_true] at hk
    cases h
    refine ⟨fun w hw => ?_, hk.2, pm_lks_cw e hm⟩
    rw [← hp.1, ← hp.2] at hw
    exact pm_ckw hk.1 hw
theorem pm_clS {o i c : Nat} (h : pm_cl o i = some c) : c < 13 ∧ Cond.classLink (pm_own o) i (pm_own c) ∈ pm_GW ∧ Cond.instantiable (pm_own c) (pm_N c) ∈ pm_GW ∧ Cond.initialized (pm_own c) ∈ pm_GW := by
  unfold pm_cl at h
  cases he : pm_cls.find? (fun e => e.1 == o && e.2.1 == i) with
  | none => rw [he] at h; cases h
  | some e =>
    rw [he] at h
    have hm := List.mem_of_find?_eq_some he
    have hp := List.find?_some he
    simp only [Bool.and_eq_true, beq_iff_eq] at hp
    have hk := List.all_eq_true.mp pm_cls_ok e hm
    unfold pm_ckC at hk
    simp only [Bool.and_eq_true, decide_eq_true_eq] at hk
    cases h
    refine ⟨hk.2, ?_, ?_, ?_⟩
    · have := pm_ckw hk.1 List.mem_cons_self
      rw [hp.1, hp.2] at this
      exact this
    · exact pm_ckw hk.1 (List.mem_cons_of_mem _ List.mem_cons_self)
    · exact pm_ckw hk.1 (List.mem_cons_of_mem _ (List.mem_cons_of_mem _ List.mem_cons_self))
theorem pm_cnS {o i : Nat} {v : Int} (h : pm_cn o i = some v) : Cond.constant (pm_own o) i (Int32.ofInt v) ∈ pm_GW := by
  unfold pm_cn at h
  cases he : pm_con.find? (fun e => e.1 == o && e.2.1 == i) with
  | none => rw [he] at h; cases h
  | some e =>
    rw [he] at h
    have hm := List.mem_of_find?_eq_some he
    have hp := List.find?_some he
    simp only [Bool.and_eq_true, beq_iff_eq] at hp
    have hk := List.all_eq_true.mp pm_con_ok e hm
    cases h
    have := pm_ckw hk (List.mem_singleton.mpr rfl)
    rw [hp.1, hp.2] at this
    exact this
theorem pm_cnLS {o i : Nat} {v : Int} (h : pm_cnL o i = some v) : Cond.constantLong (pm_own o) i (Int64.ofInt v) ∈ pm_GW := by
  unfold pm_cnL at h
  cases he : pm_coL.find? (fun e => e.1 == o && e.2.1 == i) with
  | none => rw [he] at h; cases h
  | some e =>
    rw [he] at h
    have hm := List.mem_of_find?_eq_some he
    have hp := List.find?_some he
    simp only [Bool.and_eq_true, beq_iff_eq] at hp
    have hk := List.all_eq_true.mp pm_coL_ok e hm
    cases h
    have := pm_ckw hk (List.mem_singleton.mpr rfl)
    rw [hp.1, hp.2] at this
    exact this
theorem pm_con_in : ∀ e ∈ pm_con, -2147483648 ≤ e.2.2.1 ∧ e.2.2.1 < 2147483648 := by decide
theorem pm_coL_in : ∀ e ∈ pm_coL, -9223372036854775808 ≤ e.2.2.1 ∧ e.2.2.1 < 9223372036854775808 := by decide
theorem pm_cn_in {o i : Nat} {v : Int} (h : pm_cn o i = some v) : -2147483648 ≤ v ∧ v < 2147483648 := by
  unfold pm_cn at h
  cases he : pm_con.find? (fun e => e.1 == o && e.2.1 == i) with
  | none => rw [he] at h; cases h
  | some e => rw [he] at h; cases h; exact pm_con_in e (List.mem_of_find?_eq_some he)
theorem pm_cnL_in {o i : Nat} {v : Int} (h : pm_cnL o i = some v) : -9223372036854775808 ≤ v ∧ v < 9223372036854775808 := by
  unfold pm_cnL at h
  cases he : pm_coL.find? (fun e => e.1 == o && e.2.1 == i) with
  | none => rw [he] at h; cases h
  | some e => rw [he] at h; cases h; exact pm_coL_in e (List.mem_of_find?_eq_some he)
theorem pm_stS {E : pm_E} {D : va_G} {cs : Nat → ClassId} {sc : Nat × (Nat → Int)} {U : State} {H : Heap} (hK : pm_K E D cs sc U H) {o i k : Nat} (h : pm_st o i = some k) : ∃ tx, vk_R (pm_own o) i tx (E.2.2.1 k) U := by
  unfold pm_st at h
  obtain ⟨hk, hp, -⟩ := List.findIdx?_eq_some_iff_getElem.mp h
  simp only [Bool.and_eq_true, beq_iff_eq] at hp
  have h6 := hK.2.2.2.1 k pm_str[k] (List.getElem?_eq_getElem hk)
  rw [hp.1, hp.2] at h6
  exact ⟨_, h6⟩

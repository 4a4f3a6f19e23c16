/-! calls -/
section PMC
variable {p : Program} {l : Launch} {e : Env} {R : Room} {s : State} {m : MethodId} {args : Array Value} {below : List Frame} {meth : Method} {c : Code} {H : Heap} {locs : List Loc} {cells slots : Nat} {Q : State → Prop}
variable {E : pm_E} {D : va_G} {cs : Nat → ClassId} {sc : Nat × (Nat → Int)} {me me' : pm_Me} {n d pc j : Nat} {ls st rest : List pm_V} {S S1 : pm_S} {M M1 : pm_M} {Ls : Array Slot} {r : Option pm_V}
theorem pm_cont {mc ms : Nat} {st0 : List Value} {rs : List Value} {a : Array Value} (hr : va_Run p l e R s m args below meth c H locs cells slots mc ms (F0 m pc Ls st0) rs (pm_Qc E D cs r S1 M1 a) (pm_A E)) (hS : va_S (pm_A E) s.heap H locs)
    (kk : ∀ (H1 : Heap) (locs1 : List Loc), pm_R E D cs S1 M1 H1 → pm_G S1 M1 → (∀ v, r = some v → pm_in v) → va_S (pm_A E) s.heap H1 locs1 → W p l e R s m args below meth c H1 locs1 (cells + mc) (slots + ms) Q (F0 m (pc + 3) Ls ((r.map (pm_v E)).toList ++ rs))) : W p l e R s m args below meth c H locs cells slots Q (F0 m pc Ls st0) := by
  intro T hT X
  obtain ⟨v, st₀, t, T', L, h0, X', hL, e1, e2, ⟨hv, hR, hG, hri, hz, hk⟩, st⟩ := hr T hT X
  cases hv
  rw [h0] at hz hk
  obtain ⟨t2, a1, b1⟩ := kk T'.heap (locs ++ L) (by rw [e1]; exact hR) hG hri ⟨Nat.le_trans hS.1 (by rw [e1]; exact hz), fun q h1 h2 => by rw [e1, hk q (Nat.lt_of_lt_of_le h1 hS.1) h2]; exact hS.2.1 q h1 h2, fun q hq => by
      rcases List.mem_append.mp hq with h | h
      · exact hS.2.2 q h
      · exact hL q h⟩ T' rfl X'
  exact ⟨t2, st t2 a1, b1⟩
/-- what the caller goes on with -/
def pm_ck2 (E : pm_E) (D : va_G) (cs : Nat → ClassId) (p : Program) (l : Launch) (e : Env) (R : Room) (s : State) (m : MethodId) (args : Array Value) (below : List Frame) (meth : Method) (c : Code) (me : pm_Me) (Q : State → Prop) (cells slots : Nat) (S : pm_S) (pc : Nat) (ls rest : List pm_V) (r : Option pm_V) (S1 : pm_S) (M1 : pm_M) : Prop :=
  ∀ (H' : Heap) (locs' : List Loc) (Ls' : Array Slot), pm_Y E D cs s me S1 M1 ls (r.toList ++ rest) H' locs' Ls' → W p l e R s m args below meth c H' locs' (cells + (S1.length - S.length)) (slots + (pm_sz S1 - pm_sz S)) Q (F0 m (pc + 3) Ls' ((r.toList ++ rest).map (pm_v E)))
theorem pm_after (Y : pm_Y E D cs s me S M ls st H locs Ls) (hrest : ∀ v ∈ rest, pm_in v) (k : pm_ck2 E D cs p l e R s m args below meth c me Q cells slots S pc ls rest r S1 M1) (H1 : Heap) (locs1 : List Loc) (h1 : pm_R E D cs S1 M1 H1) (h2 : pm_G S1 M1) (h3 : ∀ v, r = some v → pm_in v) (h4 : va_S (pm_A E) s.heap H1 locs1) : W p l e R s m args below meth c H1 locs1 (cells + (S1.length - S.length)) (slots + (pm_sz S1 - pm_sz S)) Q (F0 m (pc + 3) Ls ((r.map (pm_v E)).toList ++ rest.map (pm_v E))) := by
  have h := k H1 locs1 Ls ⟨h1, h2, h4, Y.2.2.2.1, Y.2.2.2.2.1, Y.2.2.2.2.2.1, fun v hv => (List.mem_append.mp hv).elim (fun q => h3 v (by cases r with
    | none => exact absurd q List.not_mem_nil
    | some w => exact congrArg some (List.mem_singleton.mp q).symm)) (hrest v)⟩
  have e : (r.toList ++ rest).map (pm_v E) = (r.map (pm_v E)).toList ++ rest.map (pm_v E) := by cases r <;> rfl
  rw [e] at h
  exact h
theorem pm_wsG (h : Cond.code me'.1 me'.2.1 me'.2.2.2.1 (pm_ret me'.2.2.2.2.1) ∈ lw_tbl) : GoodIn pm_GW (pm_ws me') := by
  intro w hw
  rcases List.mem_cons.mp hw with rfl | hw
  · exact ⟨pm_hGW h rfl, Or.inl rfl⟩
  · exact pm_goodGW w hw
theorem pm_okM (h : pm_ckM me' = true) (hh : me'.2.2.2.2.2.2 = 0 ∨ me'.2.2.2.2.2.2 = 1 ∨ me'.2.2.2.2.2.2 = 2 ∨ me'.2.2.2.2.2.2 = 12) :
    me'.1.cls = pm_own me'.2.2.1 ∧ me'.1.cls ≠ "java/lang/invoke/MethodHandle" ∧ me'.1.cls ≠ "java/lang/invoke/VarHandle" ∧ plainName me'.1.cls = true ∧ (parseMethodDescriptor me'.1.desc).map (fun d => d.parameters.length) = some me'.2.2.2.2.2.1 ∧ me'.2.2.2.1 ≤ 45 ∧ ((me'.2.2.2.2.2.2 = 2 ∨ me'.2.2.2.2.2.2 = 12) → me'.1.name = "<init>" ∧ me'.2.2.2.2.1 = 6) := by
  unfold pm_ckM at h
  rw [Bool.or_eq_true] at h
  rcases h with h | h
  · exfalso
    simp only [Bool.and_eq_true, bne_iff_ne, ne_eq] at h
    rcases hh with hh | hh | hh | hh
    · exact h.1.1.1 hh
    · exact h.1.1.2 hh
    · exact h.1.2 hh
    · exact h.2 hh
  · simp only [Bool.and_eq_true, Bool.or_eq_true, beq_iff_eq, decide_eq_true_eq] at h
    obtain ⟨⟨⟨⟨⟨⟨⟨h1, h2⟩, h3⟩, h4⟩, h5⟩, h6⟩, h7⟩, h8⟩ := h
    refine ⟨h1, h2, h3, h4, h5, h6, fun hq => ?_⟩
    rcases h7 with (h7 | h7) | h7
    · omega
    · omega
    · exact h7
theorem pm_rmR (C : pm_C E D cs sc p R s m args meth c me d) (hd : 20 ≤ d) (hm : me'.2.2.2.1 ≤ 45) {mc ms : Nat} : (pm_rm (d - 1) mc ms).frames + 1 ≤ R.frames ∧ 8 + (me'.2.2.2.1 + 11) + (pm_rm (d - 1) mc ms).locals ≤ R.locals := by
  obtain ⟨h1, h2, -⟩ := C.2.2.2.2.2.2.2
  show d - 1 + 1 ≤ R.frames ∧ 8 + (me'.2.2.2.1 + 11) + 64 * (d - 1) ≤ R.locals
  omega
theorem pm_pre (C : pm_C E D cs sc p R s m args meth c me d) (Y : pm_Y E D cs s me S M ls st H locs Ls) {as : List pm_V} {va : List Value} (hva : va = as.map (pm_v E)) : ∀ U : State, U.heap = H → s.WarmedH U.vm → pm_Pc E D cs sc as S M va.toArray U := by
  intro U hU hW
  refine ⟨by rw [hva], by rw [hU]; exact Y.1, Y.2.1, ?_⟩
  rw [hU]
  exact C.2.2.2.2.2.1.go hW Y.2.2.1.1 Y.2.2.1.2.1
theorem pm_callS (ih : pm_Sn E D cs sc l n) (C : pm_C E D cs sc p R s m args meth c me d) (Y : pm_Y E D cs s me S M ls st H locs Ls) (hl : pm_lnk me.2.2.1 j = some me') {as : List pm_V} (hX : pm_X sc n (d - 1) me' 0 (pm_ent me'.2.2.2.1 as) [] S M = some (r, S1, M1)) (h7 : r.map Prod.fst ≠ some 7) (hlen : (pm_ent me'.2.2.2.1 as).length = me'.2.2.2.1) (hd : 20 ≤ d)
    (hdg : decode me.2.1 pc = .ok (.invokestatic j, 3)) (h0 : me'.2.2.2.2.2.2 = 0) (hst : st = as.reverse ++ rest) (hn : as.length = me'.2.2.2.2.2.1) (h4 : rest.length ≤ 4) (hrc : cells + (S1.length - S.length) ≤ R.cells) (hrs : slots + (pm_sz S1 - pm_sz S) ≤ R.slots)
    (k : pm_ck2 E D cs p l e R s m args below meth c me Q cells slots S pc ls rest r S1 M1) : W p l e R s m args below meth c H locs cells slots Q (F0 m pc Ls (st.map (pm_v E))) := by
  subst hst
  obtain ⟨hq, hck, hcw⟩ := pm_lnkS hl
  obtain ⟨m1, m2, m3, m4, m5, m6, -⟩ := pm_okM hck (Or.inl h0)
  have hts := C.2.2.2.2.1
  unfold pm_req at hq
  rw [h0] at hq
  have hM := pm_met ih hX h7 hlen (fun v hv => Y.i (List.mem_append_left _ (List.mem_reverse.mpr hv))) (by omega) m4 m1 (fun h => by omega)
  have hs := pm_sum E rest h4
  refine pm_cont (va_runS (Ts := pm_GW) (own := pm_own me.2.2.1) (As := as.map (pm_v E)) (rest := rest.map (pm_v E)) ⟨C.1, C.2.1, C.2.2.1, C.2.2.2.1, hts⟩ hM ⟨callB_of me'.2.2.2.2.2.1 hts (pm_wsG (hcw (Or.inl h0))) rfl rfl rfl (hts _ (hq _ (by simp))) (hts _ (hq _ (by simp))) ⟨m2, m3, m5⟩ (pm_rmR C hd m6), hts _ (hq _ (by simp))⟩ ⟨pm_Pc_blind, pm_pre C Y rfl⟩ rfl (by rw [List.length_map]; exact hn) (by rw [Y.2.2.2.1.1]; exact Y.2.2.2.2.1) (by show (_ : List Value) = _; rw [List.map_append, List.map_reverse]) (by show 2 * 0 + _ ≤ 8; omega) hdg ⟨hrc, hrs⟩) Y.2.2.1 (pm_after Y (fun v hv => Y.i (List.mem_append_right _ hv)) k)
theorem pm_callV (ih : pm_Sn E D cs sc l n) (C : pm_C E D cs sc p R s m args meth c me d) (Y : pm_Y E D cs s me S M ls st H locs Ls) (hl : pm_lnk me.2.2.1 j = some me') {v0 : pm_V} {as : List pm_V} {b : Nat} (hb : pm_v E v0 = .ref b) (hrecv : ∃ cellB : Cell, H[b]? = some cellB ∧ cellB.vm.isStatics = false ∧ s.vm.findClass me'.1.cls = some cellB.cls) (hX : pm_X sc n (d - 1) me' 0 (pm_ent me'.2.2.2.1 (v0 :: as)) [] S M = some (r, S1, M1)) (h7 : r.map Prod.fst ≠ some 7) (hlen : (pm_ent me'.2.2.2.1 (v0 :: as)).length = me'.2.2.2.1) (hd : 20 ≤ d)
    (hdg : decode me.2.1 pc = .ok (.invokevirtual j, 3)) (h0 : me'.2.2.2.2.2.2 = 1) (hst : st = as.reverse ++ v0 :: rest) (hn : as.length = me'.2.2.2.2.2.1) (h4 : rest.length ≤ 4) (hrc : cells + (S1.length - S.length) ≤ R.cells) (hrs : slots + (pm_sz S1 - pm_sz S) ≤ R.slots)
    (k : pm_ck2 E D cs p l e R s m args below meth c me Q cells slots S pc ls rest r S1 M1) : W p l e R s m args below meth c H locs cells slots Q (F0 m pc Ls (st.map (pm_v E))) := by
  subst hst
  obtain ⟨hq, hck, hcw⟩ := pm_lnkS hl
  obtain ⟨m1, m2, m3, m4, m5, m6, -⟩ := pm_okM hck (Or.inr (Or.inl h0))
  have hts := C.2.2.2.2.1
  unfold pm_req at hq
  rw [h0] at hq
  have has : ∀ v ∈ v0 :: as, pm_in v := fun v hv => by
    rcases List.mem_cons.mp hv with rfl | hv
    · exact Y.i (List.mem_append_right _ List.mem_cons_self)
    · exact Y.i (List.mem_append_left _ (List.mem_reverse.mpr hv))
  have hM := pm_met ih hX h7 hlen has (by omega) m4 m1 (fun h => by omega)
  have hs := pm_sum E rest h4
  refine pm_cont (va_runV (Ts := pm_GW) (own := pm_own me.2.2.1) (C := me'.1.cls) (b := b) (As := as.map (pm_v E)) (rest := rest.map (pm_v E)) ⟨C.1, C.2.1, C.2.2.1, C.2.2.2.1, hts⟩ hM ⟨callB_of me'.2.2.2.2.2.1 hts (pm_wsG (hcw (Or.inr (Or.inl h0)))) rfl rfl rfl (hts _ (hq _ (by simp))) (hts _ (hq _ (by simp))) ⟨m2, m3, m5⟩ (pm_rmR C hd m6), hts _ (hq _ (by simp)), hts _ (hq _ (by simp))⟩ ⟨pm_Pc_blind, hrecv, pm_pre C Y (by rw [List.map_cons, hb])⟩ rfl (by rw [List.length_map]; exact hn) (by rw [Y.2.2.2.1.1]; exact Y.2.2.2.2.1) (by show (_ : List Value) = _; rw [List.map_append, List.map_reverse, List.map_cons, hb]) (by show 2 * 0 + _ ≤ 8; omega) hdg ⟨hrc, hrs⟩) Y.2.2.1 (pm_after Y (fun v hv => Y.i (List.mem_append_right _ (List.mem_cons_of_mem _ hv))) k)
theorem pm_callI (ih : pm_Sn E D cs sc l n) (C : pm_C E D cs sc p R s m args meth c me d) (Y : pm_Y E D cs s me S M ls st H locs Ls) (hl : pm_lnk me.2.2.1 j = some me') {v0 : pm_V} {as : List pm_V} {b : Nat} (hb : pm_v E v0 = .ref b) (hX : pm_X sc n (d - 1) me' 0 (pm_ent me'.2.2.2.1 (v0 :: as)) [] S M = some (r, S1, M1)) (h7 : r.map Prod.fst ≠ some 7) (hlen : (pm_ent me'.2.2.2.1 (v0 :: as)).length = me'.2.2.2.1) (hd : 20 ≤ d)
    (hdg : decode me.2.1 pc = .ok (.invokespecial j, 3)) (h0 : me'.2.2.2.2.2.2 = 2) (hst : st = as.reverse ++ v0 :: rest) (hn : as.length = me'.2.2.2.2.2.1) (h4 : rest.length ≤ 4) (hrc : cells + (S1.length - S.length) ≤ R.cells) (hrs : slots + (pm_sz S1 - pm_sz S) ≤ R.slots)
    (k : pm_ck2 E D cs p l e R s m args below meth c me Q cells slots S pc ls rest r S1 M1) : W p l e R s m args below meth c H locs cells slots Q (F0 m pc Ls (st.map (pm_v E))) := by
  subst hst
  obtain ⟨hq, hck, hcw⟩ := pm_lnkS hl
  obtain ⟨m1, m2, m3, m4, m5, m6, m7⟩ := pm_okM hck (Or.inr (Or.inr (Or.inl h0)))
  obtain ⟨m7, m8⟩ := m7 (Or.inl h0)
  have hts := C.2.2.2.2.1
  unfold pm_req at hq
  rw [h0] at hq
  have has : ∀ v ∈ v0 :: as, pm_in v := fun v hv => by
    rcases List.mem_cons.mp hv with rfl | hv
    · exact Y.i (List.mem_append_right _ List.mem_cons_self)
    · exact Y.i (List.mem_append_left _ (List.mem_reverse.mpr hv))
  have hM := pm_met ih hX h7 hlen has (by omega) m4 m1 (fun _ => m7)
  have hs := pm_sum E rest h4
  have hw : pm_ws me' = Cond.code me'.1 me'.2.1 me'.2.2.2.1 none :: pm_GW := by unfold pm_ws; rw [m8]; rfl
  refine pm_cont (va_runI (Ts := pm_GW) (own := pm_own me.2.2.1) (b := b) (As := as.map (pm_v E)) (rest := rest.map (pm_v E)) ⟨C.1, C.2.1, C.2.2.1, C.2.2.2.1, hts⟩ hM ⟨callB_of me'.2.2.2.2.2.1 hts (pm_wsG (hcw (Or.inr (Or.inr (Or.inl h0))))) hw rfl rfl (hts _ (hq _ (by simp))) (hts _ (hq _ (by simp))) ⟨m2, m3, m5⟩ (pm_rmR C hd m6), m7, hts _ (hq _ (by simp))⟩ ⟨pm_Pc_blind, pm_pre C Y (by rw [List.map_cons, hb])⟩ rfl (by rw [List.length_map]; exact hn) (by rw [Y.2.2.2.1.1]; exact Y.2.2.2.2.1) (by show (_ : List Value) = _; rw [List.map_append, List.map_reverse, List.map_cons, hb]) (by show 2 * 0 + _ ≤ 8; omega) hdg ⟨hrc, hrs⟩) Y.2.2.1 (pm_after Y (fun v hv => Y.i (List.mem_append_right _ (List.mem_cons_of_mem _ hv))) k)
theorem pm_nest_ok : pm_lks.all (fun e => decide (e.2.2.1.2.2.2.2.2.2 = 12 → (e.1 = 11 ∧ ((e.2.1 = 15 ∧ e.2.2.1.1 = yX0_init) ∨ (e.2.1 = 22 ∧ e.2.2.1.1 = yX8_init))))) = true := by decide +kernel
theorem pm_nestS {o i : Nat} (h : pm_lnk o i = some me') (h12 : me'.2.2.2.2.2.2 = 12) {U : State} {H0 : Heap} (hK : pm_K E D cs sc U H0) : va_Nw (.methodLinkNest (pm_own o) i me'.1 RX11) U := by
  unfold pm_lnk at h
  cases he : pm_lks.find? (fun e => e.1 == o && e.2.1 == i) with
  | none => rw [he] at h; cases h
  | some e =>
    rw [he] at h
    have hp := List.find?_some he
    simp only [Bool.and_eq_true, beq_iff_eq] at hp
    cases h
    have h1 := of_decide_eq_true (List.all_eq_true.mp pm_nest_ok e (List.mem_of_find?_eq_some he)) h12
    rw [← hp.1, ← hp.2, h1.1]
    rcases h1.2 with ⟨h2, h3⟩ | ⟨h2, h3⟩
    · rw [h2, h3]
      exact hK.2.2.1.1
    · rw [h2, h3]
      exact hK.2.2.1.2.1
theorem pm_callIN (ih : pm_Sn E D cs sc l n) (C : pm_C E D cs sc p R s m args meth c me d) (Y : pm_Y E D cs s me S M ls st H locs Ls) (hl : pm_lnk me.2.2.1 j = some me') {v0 : pm_V} {as : List pm_V} {b : Nat} (hb : pm_v E v0 = .ref b) (hX : pm_X sc n (d - 1) me' 0 (pm_ent me'.2.2.2.1 (v0 :: as)) [] S M = some (r, S1, M1)) (h7 : r.map Prod.fst ≠ some 7) (hlen : (pm_ent me'.2.2.2.1 (v0 :: as)).length = me'.2.2.2.1) (hd : 20 ≤ d)
    (hdg : decode me.2.1 pc = .ok (.invokespecial j, 3)) (h0 : me'.2.2.2.2.2.2 = 12) (hst : st = as.reverse ++ v0 :: rest) (hn : as.length = me'.2.2.2.2.2.1) (h4 : rest.length ≤ 4) (hrc : cells + (S1.length - S.length) ≤ R.cells) (hrs : slots + (pm_sz S1 - pm_sz S) ≤ R.slots)
    (k : pm_ck2 E D cs p l e R s m args below meth c me Q cells slots S pc ls rest r S1 M1) : W p l e R s m args below meth c H locs cells slots Q (F0 m pc Ls (st.map (pm_v E))) := by
  subst hst
  obtain ⟨hq, hck, hcw⟩ := pm_lnkS hl
  obtain ⟨m1, m2, m3, m4, m5, m6, m7⟩ := pm_okM hck (Or.inr (Or.inr (Or.inr h0)))
  obtain ⟨m7, m8⟩ := m7 (Or.inr h0)
  have hts := C.2.2.2.2.1
  unfold pm_req at hq
  rw [h0] at hq
  have has : ∀ v ∈ v0 :: as, pm_in v := fun v hv => by
    rcases List.mem_cons.mp hv with rfl | hv
    · exact Y.i (List.mem_append_right _ List.mem_cons_self)
    · exact Y.i (List.mem_append_left _ (List.mem_reverse.mpr hv))
  have hM := pm_met ih hX h7 hlen has (by omega) m4 m1 (fun _ => m7)
  have hs := pm_sum E rest h4
  have hw : pm_ws me' = Cond.code me'.1 me'.2.1 me'.2.2.2.1 none :: pm_GW := by unfold pm_ws; rw [m8]; rfl
  refine pm_cont (va_runIN (Ts := pm_GW) (own := pm_own me.2.2.1) (host := RX11) (b := b) (As := as.map (pm_v E)) (rest := rest.map (pm_v E)) ⟨C.1, C.2.1, C.2.2.1, C.2.2.2.1, hts⟩ hM ⟨va_cnB me'.2.2.2.2.2.1 hts (pm_wsG (hcw (Or.inr (Or.inr (Or.inr h0))))) hw rfl rfl (pm_nestS hl h0 C.2.2.2.2.2.1) (hts _ (hq _ (by simp))) ⟨m2, m3, m5⟩ (pm_rmR C hd m6), m7, hts _ (hq _ (by simp))⟩ ⟨pm_Pc_blind, pm_pre C Y (by rw [List.map_cons, hb])⟩ rfl (by rw [List.length_map]; exact hn) (by rw [Y.2.2.2.1.1]; exact Y.2.2.2.2.1) (by show (_ : List Value) = _; rw [List.map_append, List.map_reverse, List.map_cons, hb]) (by show 2 * 0 + _ ≤ 8; omega) hdg ⟨hrc, hrs⟩) Y.2.2.1 (pm_after Y (fun v hv => Y.i (List.mem_append_right _ (List.mem_cons_of_mem _ hv))) k)
end PMC

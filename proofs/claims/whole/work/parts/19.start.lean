/-! the law's start -/
def pm_pre1 : Cond := Jvm.Cond.and given_1 narrow_1
def pm_tm (i : Nat) : Term := match pm_str[i]? with
  | some e => .string (pm_own e.1) e.2.1
  | none => .arg 0
theorem pm_p1 : ∀ i, i < 13 → Cond.exactly (pm_tm i) "java/lang/String" ∈ flatC pm_pre1 := by decide +kernel
theorem pm_p2 : ∀ i, i < 10 → (Cond.eq (.field (pm_tm i) "java/lang/String" "coder" "B") (.int 0) ∈ flatC pm_pre1 ∧ Cond.arrayOf (.field (pm_tm i) "java/lang/String" "value" "[B") .byte ∈ flatC pm_pre1 ∧ Cond.eq (.length (.field (pm_tm i) "java/lang/String" "value" "[B")) (.int (Int32.ofNat (pm_len.getD i 0))) ∈ flatC pm_pre1) := by decide +kernel
theorem pm_p3 : ∀ i, i < 10 → ∀ j, j < pm_len.getD i 0 → Cond.eq (.elem (.field (pm_tm i) "java/lang/String" "value" "[B") (.int (Int32.ofNat j))) (.int ((pm_byt.getD i []).getD j 0)) ∈ flatC pm_pre1 := by decide +kernel
theorem pm_p4 : ∀ i, i < 10 → ∀ j, j < 10 → i ≠ j → (Cond.not (Cond.eq (pm_tm i) (pm_tm j)) ∈ flatC pm_pre1 ∨ Cond.not (Cond.eq (pm_tm j) (pm_tm i)) ∈ flatC pm_pre1) := by decide +kernel
theorem pm_p5 : Cond.eq (.static "java/lang/String" "COMPACT_STRINGS" "Z") (.int 1) ∈ flatC pm_pre1 ∧ Cond.isRef (.static "jdk/internal/util/Preconditions" "SIOOBE_FORMATTER" "Ljava/util/function/BiFunction;") ∈ flatC pm_pre1 ∧ Cond.isRef (.static Bundle.tN "UNASSIGNED_STACK" Bundle.steD) ∈ flatC pm_pre1 ∧ Cond.isRef (.static Bundle.tN "SUPPRESSED_SENTINEL" Bundle.listD) ∈ flatC pm_pre1 := by decide +kernel
theorem pm_p6 : Cond.laysStatic "java/lang/String" "COMPACT_STRINGS" "Z" ∈ lw_tbl ∧ Cond.initialized "java/lang/String" ∈ lw_tbl ∧ Cond.laysStatic "jdk/internal/util/Preconditions" "SIOOBE_FORMATTER" "Ljava/util/function/BiFunction;" ∈ lw_tbl ∧ Cond.initialized "jdk/internal/util/Preconditions" ∈ lw_tbl ∧ Cond.laysStatic Bundle.tN "UNASSIGNED_STACK" Bundle.steD ∈ lw_tbl ∧ Cond.laysStatic Bundle.tN "SUPPRESSED_SENTINEL" Bundle.listD ∈ lw_tbl ∧ Cond.initialized Bundle.tN ∈ lw_tbl := by decide +kernel
theorem pm_p7 : Cond.methodLinkNest RX11 15 yX0_init RX11 ∈ lw_tbl ∧ Cond.methodLinkNest RX11 22 yX8_init RX11 ∈ lw_tbl ∧ Cond.castable pm_nse pm_nse ∈ lw_tbl ∧ Cond.declares (Bundle.initS "java/lang/RuntimeException") ∈ lw_tbl ∧ Cond.declares (Bundle.initS "java/lang/Exception") ∈ lw_tbl ∧ Cond.declares (Bundle.initS Bundle.tN) ∈ lw_tbl := by decide +kernel
theorem pm_p8 : ∀ c, c < 13 → Cond.instantiable (pm_own c) (pm_N c) ∈ lw_tbl := by decide +kernel
theorem pm_p9 : ∀ i, i < 13 → ∃ e, pm_str[i]? = some e ∧ Cond.stringRef (pm_own e.1) e.2.1 e.2.2.1 ∈ lw_tbl := by
  intro i hi
  have hlt : i < pm_str.length := hi
  refine ⟨pm_str[i], List.getElem?_eq_getElem hlt, ?_⟩
  have h := of_decide_eq_true (List.all_eq_true.mp pm_str_ok pm_str[i] (List.getElem_mem hlt))
  exact List.mem_of_getElem? h
/-- what is left to show, of numbers alone: the law's run answers 1, in its room -/
def pm_Pure : Prop := ∀ (L : Nat) (xs : Nat → Int), L ≤ 3072 → (∀ j, -2147483648 ≤ xs j ∧ xs j < 2147483648) → ∃ (n : Nat) (S' : pm_S) (M' : pm_M), pm_X (L, xs) n 1000 mL_law 0 [(4, 0), (9, 0), (9, 0), (9, 0), (9, 0), (9, 0), (9, 0)] [] [] (fun _ _ => 0) = some (some (0, 1), S', M') ∧ S'.length ≤ 601024 ∧ pm_sz S' ≤ 7293034
theorem pm_start {s : State} {args : Array Value} {b L : Nat} {xs : Nat → Int32} (hts : ∀ w ∈ lw_tbl, w.before args s = true) (hpre : (Jvm.Cond.and given_1 narrow_1).before args s = true) (hX : va_X b L xs s s.heap) (hb : b < s.heap.size) (hL : L ≤ 3072) :
    ∃ (E : pm_E) (D : va_G) (cs : Nat → ClassId), E.1 = s.heap.size ∧ E.2.1 = b ∧ pm_K E D cs (L, fun j => (xs j).toInt) s s.heap := by
  have hfl := flat_of_before pm_pre1 hpre
  have hA : ∀ a : Nat, a < s.heap.size → ¬ (fun q => s.heap.size ≤ q) a := fun a h q => Nat.not_le.mpr h q
  have hGW : ∀ w ∈ pm_GW, w.before args s = true := fun w hw => hts w (List.mem_filter.mp hw).1
  obtain ⟨adK, adV, hvk, hev⟩ := vk_Sof (args := args) (s := s) (N := 10) (tm := pm_tm) (len := pm_len) (byt := pm_byt) (A := fun q => s.heap.size ≤ q) (by decide +kernel) (fun i hi => hfl _ (pm_p1 i (by omega))) (fun i hi => hfl _ (pm_p2 i hi).1) (fun i hi => hfl _ (pm_p2 i hi).2.1) (fun i hi => hfl _ (pm_p2 i hi).2.2) (fun i hi j hj => hfl _ (pm_p3 i hi j hj)) (fun i j hi hj hij => (pm_p4 i hi j hj hij).imp (hfl _) (hfl _)) hA
  have hex : ∀ i, ∃ a : Nat, i < 13 → (pm_tm i).eval args s none [] s = some (.ref a) := by
    intro i
    by_cases hi : i < 13
    · obtain ⟨a, c, cA, kA, q1, -⟩ := Cond.exactly_spec (args := args) (first := s) (o := none) (s := s) (idx := []) (t := pm_tm i) (cls := "java/lang/String") (hfl _ (pm_p1 i hi))
      exact ⟨a, fun _ => q1⟩
    · exact ⟨0, fun h => absurd h hi⟩
  obtain ⟨ad2, had2⟩ := Classical.axiomOfChoice hex
  have hagree : ∀ i, i < 10 → ad2 i = adK i := fun i hi => by
    have h1 := had2 i (by omega)
    have h2 := hev i hi
    rw [h1] at h2
    exact Value.ref.inj (Option.some.inj h2)
  have hKn : ∀ c, ∃ q : ClassId × (Nat → Nat), c < 13 → u_Kn s (pm_own c) (pm_T c) (pm_N c) q.1 q.2 := by
    intro c
    by_cases hc : c < 13
    · obtain ⟨cC, iS, h⟩ := u_known hGW (pm_lays hc) (hts _ (pm_p8 c hc))
      exact ⟨(cC, iS), fun _ => h⟩
    · exact ⟨(0, fun _ => 0), fun h => absurd h hc⟩
  obtain ⟨dd, hdd⟩ := Classical.axiomOfChoice hKn
  have arr1 : ∀ (ty : FieldType), (Cond.arrayClass ty).before args s = true → ∃ cA : ClassId, ArrOfT s cA ty ∧ s.vm.findClass ("[" ++ ty.toString) = some cA := by
    intro ty h
    obtain ⟨cA, kA, comp, h1, h2, h3⟩ := Cond.arrayClass_spec h
    exact ⟨cA, fun n z => ⟨fun k h => (by cases h), kA, h2, comp, h3⟩, h1⟩
  have hover : (Cond.arrayOver (.array .int)).before args s = true := hts _ (List.mem_of_getElem? pm_over_ok)
  have hArr : ∀ c, ∃ cA : ClassId, 13 ≤ c → c < 18 → (ArrOfT s cA (pm_ka c) ∧ s.vm.findClass ("[" ++ (pm_ka c).toString) = some cA) := by
    intro c
    by_cases hc : 13 ≤ c ∧ c < 18
    · obtain ⟨h13, h18⟩ := hc
      rcases (show c = 13 ∨ c = 14 ∨ c = 15 ∨ c = 16 ∨ c = 17 by omega) with rfl | rfl | rfl | rfl | rfl
      · obtain ⟨cA, h⟩ := arr1 .byte (hGW _ pm_arrK.1)
        exact ⟨cA, fun _ _ => h⟩
      · obtain ⟨cA, h⟩ := arr1 .int (hGW _ pm_arrK.2.1)
        exact ⟨cA, fun _ _ => h⟩
      · obtain ⟨cA, h⟩ := arr1 .long (hGW _ pm_arrK.2.2.1)
        exact ⟨cA, fun _ _ => h⟩
      · obtain ⟨cA, h⟩ := arr1 .boolean (hGW _ pm_arrK.2.2.2)
        exact ⟨cA, fun _ _ => h⟩
      · obtain ⟨comp, cA, k, -, -, h2, h3, h4⟩ := arrayOverA_spec hover
        exact ⟨cA, fun _ _ => ⟨fun n z => ⟨fun k h => (by cases h), k, h2, comp, h3⟩, h4⟩⟩
    · exact ⟨0, fun h1 h2 => absurd ⟨h1, h2⟩ hc⟩
  obtain ⟨cs, hcs⟩ := Classical.axiomOfChoice hArr
  have hfm : ∃ o : Option Nat, va_Z "jdk/internal/util/Preconditions" "SIOOBE_FORMATTER" "Ljava/util/function/BiFunction;" (va_rf o) (fun q => s.heap.size ≤ q) s s.heap := by
    rcases va_Zqof (A := fun q => s.heap.size ≤ q) (hts _ pm_p6.2.2.1) (hts _ pm_p6.2.2.2.1) (hfl _ pm_p5.2.1) hA with h | ⟨t, h⟩
    · exact ⟨none, h⟩
    · exact ⟨some t, h⟩
  obtain ⟨fm, hfm⟩ := hfm
  refine ⟨(s.heap.size, b, ad2, adV, fm), (fun c => (dd c).1, fun c => (dd c).2), cs, rfl, rfl, fun c hc => hdd c hc, fun c h1 h2 => hcs c h1 h2, ⟨va_Nw.of rfl (hts _ pm_p7.1), va_Nw.of rfl (hts _ pm_p7.2.1), over_moved (Vm.Alike.refl _) hover, va_Nw.of rfl (hts _ pm_p7.2.2.1), va_Nw.of rfl (hts _ pm_p7.2.2.2.1), va_Nw.of rfl (hts _ pm_p7.2.2.2.2.1), va_Nw.of rfl (hts _ pm_p7.2.2.2.2.2)⟩, fun i e hi => ?_, ⟨?_, hfm⟩, ⟨va_Zof (hts _ pm_p6.1) (hts _ pm_p6.2.1) (va_eqt (hfl _ pm_p5.1)) hA, vx_Zqof (hts _ pm_p6.2.2.2.2.1) (hts _ pm_p6.2.2.2.2.2.2) (hfl _ pm_p5.2.2.1) hA, vx_Zqof (hts _ pm_p6.2.2.2.2.2.1) (hts _ pm_p6.2.2.2.2.2.2) (hfl _ pm_p5.2.2.2) hA⟩, ?_, hb, Nat.le_refl _, hL, fun j => pm_in0 (pm_r32 _)⟩
  · have hi13 : i < 13 := (List.getElem?_eq_some_iff.mp hi).1
    obtain ⟨e', he', hw⟩ := pm_p9 i hi13
    cases hi.symm.trans he'
    have hev2 := had2 i hi13
    have htm : pm_tm i = .string (pm_own e.1) e.2.1 := by unfold pm_tm; rw [hi]
    rw [htm] at hev2
    exact vk_R.of (hts _ hw) hev2
  · refine ⟨fun i hi => ?_, fun i j hi hj h => hvk.2 i j hi hj (by rw [← hagree i hi, ← hagree j hj]; exact h)⟩
    have := hvk.1 i hi
    rw [← hagree i hi] at this
    exact this
  · have e : (fun j => Int32.ofInt ((xs j).toInt)) = xs := funext fun j => pm_of32 _
    show va_X b L (fun j => Int32.ofInt ((xs j).toInt)) s s.heap
    rw [e]
    exact hX

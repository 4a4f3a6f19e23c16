/-! the law: one call after another -/
theorem pl_13_22 : pm_lnk 13 22 = some mX11_feed := by rfl
theorem pl_13_26 : pm_lnk 13 26 = some mX12_feed := by rfl
theorem pl_13_27 : pm_lnk 13 27 = some mX11_program := by rfl
theorem pl_13_31 : pm_lnk 13 31 = some mX12_program := by rfl
theorem pl_13_32 : pm_lnk 13 32 = some mX11_tests := by rfl
theorem pl_13_35 : pm_lnk 13 35 = some mX12_tests := by rfl
theorem pl_13_36 : pm_lnk 13 36 = some pm_mNode := by rfl
theorem pl_13_41 : pm_lnk 13 41 = some mX12_node := by rfl
theorem pl_13_42 : pm_lnk 13 42 = some mX12_thrown := by rfl
theorem pl_13_46 : pm_lnk 13 46 = some pm_mTest := by rfl
theorem pl_13_48 : pm_lnk 13 48 = some mX12_test := by rfl
theorem pl_13_49 : pm_lnk 13 49 = some mX11_run := by rfl
theorem pl_13_52 : pm_lnk 13 52 = some mX12_run := by rfl
theorem pl_13_53 : pm_lnk 13 53 = some mX11_done := by rfl
theorem pl_13_56 : pm_lnk 13 56 = some mX12_done := by rfl
theorem pl_13_57 : pm_lnk 13 57 = some mX11_trace := by rfl
theorem pl_13_60 : pm_lnk 13 60 = some mX12_trace := by rfl
theorem pl_13_61 : pm_lnk 13 61 = some mX11_spectrum := by rfl
theorem pl_13_64 : pm_lnk 13 64 = some mX12_spectrum := by rfl
theorem pl_13_65 : pm_lnk 13 65 = some mX11_score := by rfl
theorem pl_13_69 : pm_lnk 13 69 = some mX12_score := by rfl
theorem pl_13_70 : pm_lnk 13 70 = some mX11_suspect := by rfl
theorem pl_13_73 : pm_lnk 13 73 = some mX12_suspect := by rfl
theorem pl_13_74 : pm_lnk 13 74 = some mX11_changes := by rfl
theorem pl_13_77 : pm_lnk 13 77 = some mX12_changes := by rfl
theorem pl_13_78 : pm_lnk 13 78 = some mX11_change := by rfl
theorem pl_13_81 : pm_lnk 13 81 = some mX12_change := by rfl
theorem pl_13_82 : pm_lnk 13 82 = some mX11_mend := by rfl
theorem pl_13_85 : pm_lnk 13 85 = some mX12_mend := by rfl
theorem pl_13_86 : pm_lnk 13 86 = some mX11_unlike := by rfl
theorem pl_13_89 : pm_lnk 13 89 = some mX12_unlike := by rfl
theorem pl_13_90 : pm_lnk 13 90 = some mX11_best := by rfl
theorem pl_13_93 : pm_lnk 13 93 = some mX12_best := by rfl
theorem pl_13_94 : pm_lnk 13 94 = some mX11_pair := by rfl
theorem pl_13_97 : pm_lnk 13 97 = some mX12_pair := by rfl
theorem pl_13_98 : pm_lnk 13 98 = some mX11_values := by rfl
theorem pl_13_101 : pm_lnk 13 101 = some mX12_values := by rfl
theorem pl_13_102 : pm_lnk 13 102 = some mX11_forced := by rfl
theorem pl_13_106 : pm_lnk 13 106 = some mX12_forced := by rfl
theorem pl_13_107 : pm_lnk 13 107 = some mX11_flip := by rfl
theorem pl_13_110 : pm_lnk 13 110 = some mX12_flip := by rfl
theorem pl_13_111 : pm_lnk 13 111 = some mX11_take := by rfl
theorem pl_13_114 : pm_lnk 13 114 = some mX12_take := by rfl
theorem pl_13_115 : pm_lnk 13 115 = some mX11_undo := by rfl
theorem pl_13_118 : pm_lnk 13 118 = some mX12_undo := by rfl
theorem pl_13_119 : pm_lnk 13 119 = some mX11_count := by rfl
theorem pl_13_122 : pm_lnk 13 122 = some mX12_count := by rfl
theorem s0_177 : pm_S0[177]? = some (15, 1) := by rfl
theorem nr_177 : pm_nr 177 = true := by decide +kernel
theorem lcmp_self (a : Int) : pm_lcmp a a = 0 := by unfold pm_lcmp; rw [if_neg (by omega), if_pos rfl]
theorem la_arg {sc : Nat × (Nat → Int)} {d c p : Nat} {i j : Int} {z5 z6 : pm_V} {st : List pm_V} {M : pm_M} {Q : Option pm_V → pm_M → Prop} (d0 : decode cL_law p = .ok (.aload_n 0, 1)) (d1 : decode cL_law (p + 1) = .ok (.iload 4, 2)) (d3 : decode cL_law (p + 3) = .ok (.iconst j, 1)) (d4 : decode cL_law (p + 4) = .ok (.iadd, 1)) (d5 : decode cL_law (p + 5) = .ok (.iaload, 1)) (hj : 1 ≤ j ∧ j ≤ 5) (hi : 0 ≤ i ∧ i + 6 ≤ (sc.1 : Int) ∧ sc.1 ≤ 3072) (k : pm_Fr sc d c mL_law (p + 6) [(4, 0), (2, 0), (2, 142), (2, 177), (0, i), z5, z6] ((0, sc.2 (i + j).toNat) :: st) M Q) : pm_Fr sc d c mL_law p [(4, 0), (2, 0), (2, 142), (2, 177), (0, i), z5, z6] st M Q := by
  refine fr_aload_n (me := mL_law) (pc := p) d0 rfl rfl ?_
  refine fr_iload (me := mL_law) (pc := p + 1) d1 rfl rfl ?_
  refine fr_iconst (me := mL_law) (pc := p + 3) d3 ⟨by omega, by omega⟩ ?_
  refine fr_iadd (me := mL_law) (z := i + j) (pc := p + 4) d4 (w32_id (by omega)) ?_
  refine fr_sald (me := mL_law) (pc := p + 5) d5 ⟨by omega, by omega⟩ ?_
  exact k
theorem thrown_r (sc : Nat × (Nat → Int)) (d : Nat) {M : pm_M} : pm_Fr sc d 0 mX12_thrown 0 [(2, 142)] [] M (qI (fun y M3 => y = gI M 142 0 ∧ M3 = M)) := by
  refine fr_aload_n (pc := 0) dX12_thrown_0 rfl rfl ?_
  refine fr_getf (a := 142) (i := 0) (pc := 1) dX12_thrown_1 rfl pf_12_121 rfl s0_142 rfl rfl ?_
  exact fr_iret (pc := 4) dX12_thrown_4 (Or.inl rfl) ⟨rfl, rfl⟩
theorem inv_177 {v : Int} {M : pm_M} {P : Pg} {T : Ts} {nT : Int} (hI : CI P T nT M) (hR : RI P T nT M) (hT : TA M) (hw : WF P ∧ WK P ∧ TI T nT) : CI P T nT (upI M 177 0 v) ∧ RI P T nT (upI M 177 0 v) ∧ TA (upI M 177 0 v) := by
  have f : Fr (fun a _ => a == 177) M (upI M 177 0 v) := Fr.rf.up _ rfl
  refine ⟨hI.fr f (fun a i y => by have := cR_142 y; simp; omega), hR.fr f (fun a i y => ?_), hT.fr f rfl rfl (fun _ => rfl) (fun _ => rfl)⟩
  simp only [rR, Bool.or_eq_true, Bool.and_eq_true, beq_iff_eq, decide_eq_true_eq] at y
  simp; omega
theorem law_feed {sc : Nat × (Nat → Int)} {d n : Nat} {i : Int} {z5 z6 : pm_V} {M : pm_M} {Q : Option pm_V → pm_M → Prop} (hd : 900 ≤ d) (hz5 : z5.1 ≠ 1) (hz6 : z6.1 ≠ 1) (hi : 0 ≤ i ∧ i + 6 ≤ (sc.1 : Int) ∧ sc.1 ≤ 3072) (h32 : ∀ j, sc.2 j < 2147483648) (h : INV M) (nxt : ∀ (M2 : pm_M) (z5 z6 : pm_V), z5.1 ≠ 1 → z6.1 ≠ 1 → INV M2 → pm_Fr sc d (153 * n) mL_law 993 [(4, 0), (2, 0), (2, 142), (2, 177), (0, i), z5, z6] [] M2 Q) : pm_Fr sc d (153 * n + 153) mL_law 148 [(4, 0), (2, 0), (2, 142), (2, 177), (0, i), z5, z6] [] M Q := by
  have hcl := lp_feed (a := (sc.2 (i + 1).toNat)) (b := (sc.2 (i + 2).toNat)) (c := (sc.2 (i + 3).toNat)) (d := (sc.2 (i + 4).toNat)) (e := (sc.2 (i + 5).toNat)) (K := fun r1 r2 M2 => r1 = r2 ∧ INV M2) h (fun a M2 h2 => ⟨rfl, h2⟩)
  refine fr_aload_n (pc := 148) dL_law_148 rfl rfl ?_
  refine la_arg (p := 149) (j := 1) dL_law_149 dL_law_150 dL_law_152 dL_law_153 dL_law_154 (by decide) hi ?_
  refine la_arg (p := 155) (j := 2) dL_law_155 dL_law_156 dL_law_158 dL_law_159 dL_law_160 (by decide) hi ?_
  refine la_arg (p := 161) (j := 3) dL_law_161 dL_law_162 dL_law_164 dL_law_165 dL_law_166 (by decide) hi ?_
  refine la_arg (p := 167) (j := 4) dL_law_167 dL_law_168 dL_law_170 dL_law_171 dL_law_172 (by decide) hi ?_
  refine la_arg (p := 173) (j := 5) dL_law_173 dL_law_174 dL_law_176 dL_law_177 dL_law_178 (by decide) hi ?_
  refine fr_inVI (a := 0) (as := [(0, (sc.2 (i + 1).toNat)), (0, (sc.2 (i + 2).toNat)), (0, (sc.2 (i + 3).toNat)), (0, (sc.2 (i + 4).toNat)), (0, (sc.2 (i + 5).toNat))]) (rest := []) (ls' := [(2, 0), (0, (sc.2 (i + 1).toNat)), (0, (sc.2 (i + 2).toNat)), (0, (sc.2 (i + 3).toNat)), (0, (sc.2 (i + 4).toNat)), (0, (sc.2 (i + 5).toNat))]) (c1 := 0) (c2 := 153 * n + 153) (pc := 179) dL_law_179 pl_13_22 rfl ⟨Nat.le_of_ble_eq_true rfl, Nat.le_of_ble_eq_true rfl⟩ rfl rfl rfl s0_0 (Nat.le_of_ble_eq_true rfl) (by omega) rfl rfl (by omega) (hcl sc (d - 1) (by omega)) (fun r1 M1 h1 => ?_)
  refine fr_aload_n (pc := 182) dL_law_182 rfl rfl ?_
  refine la_arg (p := 183) (j := 1) dL_law_183 dL_law_184 dL_law_186 dL_law_187 dL_law_188 (by decide) hi ?_
  refine la_arg (p := 189) (j := 2) dL_law_189 dL_law_190 dL_law_192 dL_law_193 dL_law_194 (by decide) hi ?_
  refine la_arg (p := 195) (j := 3) dL_law_195 dL_law_196 dL_law_198 dL_law_199 dL_law_200 (by decide) hi ?_
  refine la_arg (p := 201) (j := 4) dL_law_201 dL_law_202 dL_law_204 dL_law_205 dL_law_206 (by decide) hi ?_
  refine la_arg (p := 207) (j := 5) dL_law_207 dL_law_208 dL_law_210 dL_law_211 dL_law_212 (by decide) hi ?_
  refine fr_inVI (a := 142) (as := [(0, (sc.2 (i + 1).toNat)), (0, (sc.2 (i + 2).toNat)), (0, (sc.2 (i + 3).toNat)), (0, (sc.2 (i + 4).toNat)), (0, (sc.2 (i + 5).toNat))]) (rest := [(0, r1)]) (ls' := [(2, 142), (0, (sc.2 (i + 1).toNat)), (0, (sc.2 (i + 2).toNat)), (0, (sc.2 (i + 3).toNat)), (0, (sc.2 (i + 4).toNat)), (0, (sc.2 (i + 5).toNat))]) (c1 := 0) (c2 := 153 * n) (pc := 213) dL_law_213 pl_13_26 rfl ⟨Nat.le_of_ble_eq_true rfl, Nat.le_of_ble_eq_true rfl⟩ rfl rfl rfl s0_142 (Nat.le_of_ble_eq_true rfl) (by omega) rfl rfl (by omega) (h1 sc (d - 1) (by omega)) (fun r2 M2 h2 => ?_)
  obtain ⟨eq, iv⟩ := h2
  subst eq
  refine fr_icmT (tg := 993) (pc := 216) dL_law_216 (decide_eq_true rfl) rfl ?_
  exact nxt M2 z5 z6 hz5 hz6 iv
theorem law_program {sc : Nat × (Nat → Int)} {d n : Nat} {i : Int} {z5 z6 : pm_V} {M : pm_M} {Q : Option pm_V → pm_M → Prop} (hd : 900 ≤ d) (hz5 : z5.1 ≠ 1) (hz6 : z6.1 ≠ 1) (hi : 0 ≤ i ∧ i + 6 ≤ (sc.1 : Int) ∧ sc.1 ≤ 3072) (h32 : ∀ j, sc.2 j < 2147483648) (h : INV M) (nxt : ∀ (M2 : pm_M) (z5 z6 : pm_V), z5.1 ≠ 1 → z6.1 ≠ 1 → INV M2 → pm_Fr sc d (153 * n) mL_law 993 [(4, 0), (2, 0), (2, 142), (2, 177), (0, i), z5, z6] [] M2 Q) : pm_Fr sc d (153 * n + 153) mL_law 221 [(4, 0), (2, 0), (2, 142), (2, 177), (0, i), z5, z6] [] M Q := by
  have hcl := lp_program (c := 153) (by decide) (N := (sc.2 (i + 1).toNat)) (K := fun r1 r2 M2 => r1 = r2 ∧ INV M2) h (fun a M2 h2 => ⟨rfl, h2⟩)
  refine fr_aload_n (pc := 221) dL_law_221 rfl rfl ?_
  refine la_arg (p := 222) (j := 1) dL_law_222 dL_law_223 dL_law_225 dL_law_226 dL_law_227 (by decide) hi ?_
  refine fr_inVI (a := 0) (as := [(0, (sc.2 (i + 1).toNat))]) (rest := []) (ls' := [(2, 0), (0, (sc.2 (i + 1).toNat)), (9, 0)]) (c1 := 0) (c2 := 153 * n + 153) (pc := 228) dL_law_228 pl_13_27 rfl ⟨Nat.le_of_ble_eq_true rfl, Nat.le_of_ble_eq_true rfl⟩ rfl rfl rfl s0_0 (Nat.le_of_ble_eq_true rfl) (by omega) rfl rfl (by omega) (hcl sc (d - 1) (by omega)) (fun r1 M1 h1 => ?_)
  refine fr_aload_n (pc := 231) dL_law_231 rfl rfl ?_
  refine la_arg (p := 232) (j := 1) dL_law_232 dL_law_233 dL_law_235 dL_law_236 dL_law_237 (by decide) hi ?_
  refine fr_inVI (a := 142) (as := [(0, (sc.2 (i + 1).toNat))]) (rest := [(0, r1)]) (ls' := [(2, 142), (0, (sc.2 (i + 1).toNat)), (9, 0), (9, 0)]) (c1 := 153) (c2 := 153 * n) (pc := 238) dL_law_238 pl_13_31 rfl ⟨Nat.le_of_ble_eq_true rfl, Nat.le_of_ble_eq_true rfl⟩ rfl rfl rfl s0_142 (Nat.le_of_ble_eq_true rfl) (by omega) rfl rfl (by omega) (h1 sc (d - 1) (by omega)) (fun r2 M2 h2 => ?_)
  obtain ⟨eq, iv⟩ := h2
  subst eq
  refine fr_icmT (tg := 993) (pc := 241) dL_law_241 (decide_eq_true rfl) rfl ?_
  exact nxt M2 z5 z6 hz5 hz6 iv
theorem law_tests {sc : Nat × (Nat → Int)} {d n : Nat} {i : Int} {z5 z6 : pm_V} {M : pm_M} {Q : Option pm_V → pm_M → Prop} (hd : 900 ≤ d) (hz5 : z5.1 ≠ 1) (hz6 : z6.1 ≠ 1) (hi : 0 ≤ i ∧ i + 6 ≤ (sc.1 : Int) ∧ sc.1 ≤ 3072) (h32 : ∀ j, sc.2 j < 2147483648) (h : INV M) (nxt : ∀ (M2 : pm_M) (z5 z6 : pm_V), z5.1 ≠ 1 → z6.1 ≠ 1 → INV M2 → pm_Fr sc d (153 * n) mL_law 993 [(4, 0), (2, 0), (2, 142), (2, 177), (0, i), z5, z6] [] M2 Q) : pm_Fr sc d (153 * n + 153) mL_law 246 [(4, 0), (2, 0), (2, 142), (2, 177), (0, i), z5, z6] [] M Q := by
  have hcl := lp_tests (c := 153) (by decide) (N := (sc.2 (i + 1).toNat)) (K := fun r1 r2 M2 => r1 = r2 ∧ INV M2) h (fun a M2 h2 => ⟨rfl, h2⟩)
  refine fr_aload_n (pc := 246) dL_law_246 rfl rfl ?_
  refine la_arg (p := 247) (j := 1) dL_law_247 dL_law_248 dL_law_250 dL_law_251 dL_law_252 (by decide) hi ?_
  refine fr_inVI (a := 0) (as := [(0, (sc.2 (i + 1).toNat))]) (rest := []) (ls' := [(2, 0), (0, (sc.2 (i + 1).toNat)), (9, 0)]) (c1 := 0) (c2 := 153 * n + 153) (pc := 253) dL_law_253 pl_13_32 rfl ⟨Nat.le_of_ble_eq_true rfl, Nat.le_of_ble_eq_true rfl⟩ rfl rfl rfl s0_0 (Nat.le_of_ble_eq_true rfl) (by omega) rfl rfl (by omega) (hcl sc (d - 1) (by omega)) (fun r1 M1 h1 => ?_)
  refine fr_aload_n (pc := 256) dL_law_256 rfl rfl ?_
  refine la_arg (p := 257) (j := 1) dL_law_257 dL_law_258 dL_law_260 dL_law_261 dL_law_262 (by decide) hi ?_
  refine fr_inVI (a := 142) (as := [(0, (sc.2 (i + 1).toNat))]) (rest := [(0, r1)]) (ls' := [(2, 142), (0, (sc.2 (i + 1).toNat)), (9, 0), (9, 0), (9, 0)]) (c1 := 153) (c2 := 153 * n) (pc := 263) dL_law_263 pl_13_35 rfl ⟨Nat.le_of_ble_eq_true rfl, Nat.le_of_ble_eq_true rfl⟩ rfl rfl rfl s0_142 (Nat.le_of_ble_eq_true rfl) (by omega) rfl rfl (by omega) (h1 sc (d - 1) (by omega)) (fun r2 M2 h2 => ?_)
  obtain ⟨eq, iv⟩ := h2
  subst eq
  refine fr_icmT (tg := 993) (pc := 266) dL_law_266 (decide_eq_true rfl) rfl ?_
  exact nxt M2 z5 z6 hz5 hz6 iv
theorem law_node {sc : Nat × (Nat → Int)} {d n : Nat} {i : Int} {z5 z6 : pm_V} {M : pm_M} {Q : Option pm_V → pm_M → Prop} (hd : 900 ≤ d) (hz5 : z5.1 ≠ 1) (hz6 : z6.1 ≠ 1) (hi : 0 ≤ i ∧ i + 6 ≤ (sc.1 : Int) ∧ sc.1 ≤ 3072) (h32 : ∀ j, sc.2 j < 2147483648) (h : INV M) (nxt : ∀ (M2 : pm_M) (z5 z6 : pm_V), z5.1 ≠ 1 → z6.1 ≠ 1 → INV M2 → pm_Fr sc d (153 * n) mL_law 993 [(4, 0), (2, 0), (2, 142), (2, 177), (0, i), z5, z6] [] M2 Q) : pm_Fr sc d (153 * n + 153) mL_law 271 [(4, 0), (2, 0), (2, 142), (2, 177), (0, i), z5, z6] [] M Q := by
  obtain ⟨P, T, nT, hw, hI, hR, hT⟩ := h
  obtain ⟨fl, a, hfl, s1, s2⟩ := op_node (P := P) (T := T) (nT := nT) hw.1 (sc.2 (i + 1).toNat) (sc.2 (i + 2).toNat)
  have hc1 := s1 1 M (fun f v M1 => f = fl ∧ (f = 0 → v = a) ∧ M1 = M) hI (Nat.le_refl _) ⟨rfl, fun _ => rfl, rfl⟩
  have hr2 : ∀ M1, (CI P T nT M1 ∧ RI P T nT M1 ∧ TA M1) → k12_node (sc.2 (i + 1).toNat) (sc.2 (i + 2).toNat) M1 (fun r M2 => r = a ∧ INV M2 ∧ gI M2 142 0 = fl ∧ gI M2 177 0 = gI M1 177 0) := by
    intro M1 ⟨c1, r1, t1'⟩
    refine s2 M1 _ r1 (fun M2 f2 r2 e2 => ⟨rfl, ⟨P, T, nT, hw, c1.fr f2 (fun a i y => qR_c (cR_142 y).1), r2, t1'.fr f2 (qR_c (by decide)) rfl (fun i => qR_c (by decide)) (fun i => by simp [qR])⟩, e2, f2.g (by simp [qR])⟩)
  refine fr_aload_n (pc := 271) dL_law_271 rfl rfl ?_
  refine la_arg (p := 272) (j := 1) dL_law_272 dL_law_273 dL_law_275 dL_law_276 dL_law_277 (by decide) hi ?_
  refine la_arg (p := 278) (j := 2) dL_law_278 dL_law_279 dL_law_281 dL_law_282 dL_law_283 (by decide) hi ?_
  refine fr_aload_n (pc := 284) dL_law_284 rfl rfl ?_
  refine fr_grd (x := 0) (o := 177) (n := 15) (c1 := 1) (c2 := 153 * n) (mm := mX11_node) (pc := 285) dL_law_285 pl_13_36 (Or.inl ⟨rfl, rfl⟩) rfl rfl s0_0 s0_177 nr_177 (Nat.zero_le _) (by omega) (by omega) (hc1 sc (d - 2) (by omega)) (fun v M1 h1 => ?_) (fun M1 h1 => ?_)
  · obtain ⟨e1, e2, e3⟩ := h1
    subst e3
    have e4 := e2 rfl
    subst e4
    have iv := inv_177 (v := v) hI hR hT hw
    refine fr_istore (ls2 := [(4, 0), (2, 0), (2, 142), (2, 177), (0, i), (0, 0), z6]) (pc := 288) dL_law_288 rfl (Nat.le_of_ble_eq_true rfl) rfl ?_
    refine fr_aload_n (pc := 290) dL_law_290 rfl rfl ?_
    refine la_arg (p := 291) (j := 1) dL_law_291 dL_law_292 dL_law_294 dL_law_295 dL_law_296 (by decide) hi ?_
    refine la_arg (p := 297) (j := 2) dL_law_297 dL_law_298 dL_law_300 dL_law_301 dL_law_302 (by decide) hi ?_
    refine fr_inVI (a := 142) (as := [(0, (sc.2 (i + 1).toNat)), (0, (sc.2 (i + 2).toNat))]) (rest := []) (ls' := [(2, 142), (0, (sc.2 (i + 1).toNat)), (0, (sc.2 (i + 2).toNat))]) (c1 := 0) (c2 := 153 * n) (pc := 303) dL_law_303 pl_13_41 rfl ⟨Nat.le_of_ble_eq_true rfl, Nat.le_of_ble_eq_true rfl⟩ rfl rfl rfl s0_142 (Nat.le_of_ble_eq_true rfl) (by omega) rfl rfl (pm_zc _) ((hr2 (upI M1 177 0 v) iv) sc (d - 1) (by omega)) (fun r M2 h2 => ?_)
    obtain ⟨q1, q2, q3, q4⟩ := h2
    subst q1
    refine fr_istore (ls2 := [(4, 0), (2, 0), (2, 142), (2, 177), (0, i), (0, 0), (0, r)]) (pc := 306) dL_law_306 rfl (Nat.le_of_ble_eq_true rfl) rfl ?_
    refine fr_aload_n (pc := 308) dL_law_308 rfl rfl ?_
    refine fr_inVI (a := 142) (as := []) (rest := []) (ls' := [(2, 142)]) (c1 := 0) (c2 := 153 * n) (K := fun y M3 => y = gI M2 142 0 ∧ M3 = M2) (pc := 309) dL_law_309 pl_13_42 rfl ⟨Nat.le_of_ble_eq_true rfl, Nat.le_of_ble_eq_true rfl⟩ rfl rfl rfl s0_142 (Nat.le_of_ble_eq_true rfl) (by omega) rfl rfl (pm_zc _) (thrown_r sc (d - 1)) (fun y M3 h3 => ?_)
    obtain ⟨u1, u2⟩ := h3
    subst u2
    rw [q3, ← e1] at u1
    subst u1
    refine fr_iload (pc := 312) dL_law_312 rfl rfl ?_
    refine fr_icmT (tg := 319) (pc := 314) dL_law_314 (by decide) rfl ?_
    refine fr_iload (pc := 319) dL_law_319 rfl rfl ?_
    refine fr_ifcF (tg := 336) (pc := 321) dL_law_321 (by decide) rfl ?_
    refine fr_aload_n (pc := 324) dL_law_324 rfl rfl ?_
    refine fr_iconst (pc := 325) dL_law_325 (by decide) ?_
    refine fr_laload (a := 177) (n := 1) (v := r) (pc := 326) dL_law_326 rfl s0_177 (by decide) (by rw [q4]; exact gI_eq _ _ _ _) ?_
    refine fr_iload (pc := 327) dL_law_327 rfl rfl ?_
    refine fr_i2l (pc := 329) dL_law_329 ?_
    refine fr_lcmp (pc := 330) dL_law_330 ?_
    rw [lcmp_self]
    refine fr_ifcT (tg := 336) (pc := 331) dL_law_331 (by decide) rfl ?_
    refine fr_goto (tg := 993) (pc := 336) dL_law_336 rfl ?_
    exact nxt _ _ _ (by decide) (by exact pm_t0) q2
  · obtain ⟨e1, e2, e3⟩ := h1
    subst e3
    have iv := And.intro hI (And.intro hR hT)
    refine fr_istore (ls2 := [(4, 0), (2, 0), (2, 142), (2, 177), (0, i), (0, 1), z6]) (pc := 288) dL_law_288 rfl (Nat.le_of_ble_eq_true rfl) rfl ?_
    refine fr_aload_n (pc := 290) dL_law_290 rfl rfl ?_
    refine la_arg (p := 291) (j := 1) dL_law_291 dL_law_292 dL_law_294 dL_law_295 dL_law_296 (by decide) hi ?_
    refine la_arg (p := 297) (j := 2) dL_law_297 dL_law_298 dL_law_300 dL_law_301 dL_law_302 (by decide) hi ?_
    refine fr_inVI (a := 142) (as := [(0, (sc.2 (i + 1).toNat)), (0, (sc.2 (i + 2).toNat))]) (rest := []) (ls' := [(2, 142), (0, (sc.2 (i + 1).toNat)), (0, (sc.2 (i + 2).toNat))]) (c1 := 0) (c2 := 153 * n) (pc := 303) dL_law_303 pl_13_41 rfl ⟨Nat.le_of_ble_eq_true rfl, Nat.le_of_ble_eq_true rfl⟩ rfl rfl rfl s0_142 (Nat.le_of_ble_eq_true rfl) (by omega) rfl rfl (pm_zc _) ((hr2 M1 iv) sc (d - 1) (by omega)) (fun r M2 h2 => ?_)
    obtain ⟨q1, q2, q3, q4⟩ := h2
    subst q1
    refine fr_istore (ls2 := [(4, 0), (2, 0), (2, 142), (2, 177), (0, i), (0, 1), (0, r)]) (pc := 306) dL_law_306 rfl (Nat.le_of_ble_eq_true rfl) rfl ?_
    refine fr_aload_n (pc := 308) dL_law_308 rfl rfl ?_
    refine fr_inVI (a := 142) (as := []) (rest := []) (ls' := [(2, 142)]) (c1 := 0) (c2 := 153 * n) (K := fun y M3 => y = gI M2 142 0 ∧ M3 = M2) (pc := 309) dL_law_309 pl_13_42 rfl ⟨Nat.le_of_ble_eq_true rfl, Nat.le_of_ble_eq_true rfl⟩ rfl rfl rfl s0_142 (Nat.le_of_ble_eq_true rfl) (by omega) rfl rfl (pm_zc _) (thrown_r sc (d - 1)) (fun y M3 h3 => ?_)
    obtain ⟨u1, u2⟩ := h3
    subst u2
    rw [q3, ← e1] at u1
    subst u1
    refine fr_iload (pc := 312) dL_law_312 rfl rfl ?_
    refine fr_icmT (tg := 319) (pc := 314) dL_law_314 (by decide) rfl ?_
    refine fr_iload (pc := 319) dL_law_319 rfl rfl ?_
    refine fr_ifcT (tg := 336) (pc := 321) dL_law_321 (by decide) rfl ?_
    refine fr_goto (tg := 993) (pc := 336) dL_law_336 rfl ?_
    exact nxt _ _ _ (by decide) (by exact pm_t0) q2
theorem law_test {sc : Nat × (Nat → Int)} {d n : Nat} {i : Int} {z5 z6 : pm_V} {M : pm_M} {Q : Option pm_V → pm_M → Prop} (hd : 900 ≤ d) (hz5 : z5.1 ≠ 1) (hz6 : z6.1 ≠ 1) (hi : 0 ≤ i ∧ i + 6 ≤ (sc.1 : Int) ∧ sc.1 ≤ 3072) (h32 : ∀ j, sc.2 j < 2147483648) (h : INV M) (nxt : ∀ (M2 : pm_M) (z5 z6 : pm_V), z5.1 ≠ 1 → z6.1 ≠ 1 → INV M2 → pm_Fr sc d (153 * n) mL_law 993 [(4, 0), (2, 0), (2, 142), (2, 177), (0, i), z5, z6] [] M2 Q) : pm_Fr sc d (153 * n + 153) mL_law 339 [(4, 0), (2, 0), (2, 142), (2, 177), (0, i), z5, z6] [] M Q := by
  obtain ⟨P, T, nT, hw, hI, hR, hT⟩ := h
  obtain ⟨fl, a, hfl, s1, s2⟩ := op_test (P := P) (T := T) (nT := nT) hI.1.2.1.2.1 (sc.2 (i + 1).toNat) (sc.2 (i + 2).toNat)
  have hc1 := s1 1 M (fun f v M1 => f = fl ∧ (f = 0 → v = a) ∧ M1 = M) hI (Nat.le_refl _) ⟨rfl, fun _ => rfl, rfl⟩
  have hr2 : ∀ M1, (CI P T nT M1 ∧ RI P T nT M1 ∧ TA M1) → k12_test (sc.2 (i + 1).toNat) (sc.2 (i + 2).toNat) M1 (fun r M2 => r = a ∧ INV M2 ∧ gI M2 142 0 = fl ∧ gI M2 177 0 = gI M1 177 0) := by
    intro M1 ⟨c1, r1, t1'⟩
    refine s2 M1 _ r1 (fun M2 f2 r2 e2 => ⟨rfl, ⟨P, T, nT, hw, c1.fr f2 (fun a i y => qR_c (cR_142 y).1), r2, t1'.fr f2 (qR_c (by decide)) rfl (fun i => qR_c (by decide)) (fun i => by simp [qR])⟩, e2, f2.g (by simp [qR])⟩)
  refine fr_aload_n (pc := 339) dL_law_339 rfl rfl ?_
  refine la_arg (p := 340) (j := 1) dL_law_340 dL_law_341 dL_law_343 dL_law_344 dL_law_345 (by decide) hi ?_
  refine la_arg (p := 346) (j := 2) dL_law_346 dL_law_347 dL_law_349 dL_law_350 dL_law_351 (by decide) hi ?_
  refine fr_aload_n (pc := 352) dL_law_352 rfl rfl ?_
  refine fr_grd (x := 0) (o := 177) (n := 15) (c1 := 1) (c2 := 153 * n) (mm := mX11_test) (pc := 353) dL_law_353 pl_13_46 (Or.inr ⟨rfl, rfl⟩) rfl rfl s0_0 s0_177 nr_177 (Nat.zero_le _) (by omega) (by omega) (hc1 sc (d - 2) (by omega)) (fun v M1 h1 => ?_) (fun M1 h1 => ?_)
  · obtain ⟨e1, e2, e3⟩ := h1
    subst e3
    have e4 := e2 rfl
    subst e4
    have iv := inv_177 (v := v) hI hR hT hw
    refine fr_istore (ls2 := [(4, 0), (2, 0), (2, 142), (2, 177), (0, i), (0, 0), z6]) (pc := 356) dL_law_356 rfl (Nat.le_of_ble_eq_true rfl) rfl ?_
    refine fr_aload_n (pc := 358) dL_law_358 rfl rfl ?_
    refine la_arg (p := 359) (j := 1) dL_law_359 dL_law_360 dL_law_362 dL_law_363 dL_law_364 (by decide) hi ?_
    refine la_arg (p := 365) (j := 2) dL_law_365 dL_law_366 dL_law_368 dL_law_369 dL_law_370 (by decide) hi ?_
    refine fr_inVI (a := 142) (as := [(0, (sc.2 (i + 1).toNat)), (0, (sc.2 (i + 2).toNat))]) (rest := []) (ls' := [(2, 142), (0, (sc.2 (i + 1).toNat)), (0, (sc.2 (i + 2).toNat))]) (c1 := 0) (c2 := 153 * n) (pc := 371) dL_law_371 pl_13_48 rfl ⟨Nat.le_of_ble_eq_true rfl, Nat.le_of_ble_eq_true rfl⟩ rfl rfl rfl s0_142 (Nat.le_of_ble_eq_true rfl) (by omega) rfl rfl (pm_zc _) ((hr2 (upI M1 177 0 v) iv) sc (d - 1) (by omega)) (fun r M2 h2 => ?_)
    obtain ⟨q1, q2, q3, q4⟩ := h2
    subst q1
    refine fr_istore (ls2 := [(4, 0), (2, 0), (2, 142), (2, 177), (0, i), (0, 0), (0, r)]) (pc := 374) dL_law_374 rfl (Nat.le_of_ble_eq_true rfl) rfl ?_
    refine fr_aload_n (pc := 376) dL_law_376 rfl rfl ?_
    refine fr_inVI (a := 142) (as := []) (rest := []) (ls' := [(2, 142)]) (c1 := 0) (c2 := 153 * n) (K := fun y M3 => y = gI M2 142 0 ∧ M3 = M2) (pc := 377) dL_law_377 pl_13_42 rfl ⟨Nat.le_of_ble_eq_true rfl, Nat.le_of_ble_eq_true rfl⟩ rfl rfl rfl s0_142 (Nat.le_of_ble_eq_true rfl) (by omega) rfl rfl (pm_zc _) (thrown_r sc (d - 1)) (fun y M3 h3 => ?_)
    obtain ⟨u1, u2⟩ := h3
    subst u2
    rw [q3, ← e1] at u1
    subst u1
    refine fr_iload (pc := 380) dL_law_380 rfl rfl ?_
    refine fr_icmT (tg := 387) (pc := 382) dL_law_382 (by decide) rfl ?_
    refine fr_iload (pc := 387) dL_law_387 rfl rfl ?_
    refine fr_ifcF (tg := 404) (pc := 389) dL_law_389 (by decide) rfl ?_
    refine fr_aload_n (pc := 392) dL_law_392 rfl rfl ?_
    refine fr_iconst (pc := 393) dL_law_393 (by decide) ?_
    refine fr_laload (a := 177) (n := 1) (v := r) (pc := 394) dL_law_394 rfl s0_177 (by decide) (by rw [q4]; exact gI_eq _ _ _ _) ?_
    refine fr_iload (pc := 395) dL_law_395 rfl rfl ?_
    refine fr_i2l (pc := 397) dL_law_397 ?_
    refine fr_lcmp (pc := 398) dL_law_398 ?_
    rw [lcmp_self]
    refine fr_ifcT (tg := 404) (pc := 399) dL_law_399 (by decide) rfl ?_
    refine fr_goto (tg := 993) (pc := 404) dL_law_404 rfl ?_
    exact nxt _ _ _ (by decide) (by exact pm_t0) q2
  · obtain ⟨e1, e2, e3⟩ := h1
    subst e3
    have iv := And.intro hI (And.intro hR hT)
    refine fr_istore (ls2 := [(4, 0), (2, 0), (2, 142), (2, 177), (0, i), (0, 1), z6]) (pc := 356) dL_law_356 rfl (Nat.le_of_ble_eq_true rfl) rfl ?_
    refine fr_aload_n (pc := 358) dL_law_358 rfl rfl ?_
    refine la_arg (p := 359) (j := 1) dL_law_359 dL_law_360 dL_law_362 dL_law_363 dL_law_364 (by decide) hi ?_
    refine la_arg (p := 365) (j := 2) dL_law_365 dL_law_366 dL_law_368 dL_law_369 dL_law_370 (by decide) hi ?_
    refine fr_inVI (a := 142) (as := [(0, (sc.2 (i + 1).toNat)), (0, (sc.2 (i + 2).toNat))]) (rest := []) (ls' := [(2, 142), (0, (sc.2 (i + 1).toNat)), (0, (sc.2 (i + 2).toNat))]) (c1 := 0) (c2 := 153 * n) (pc := 371) dL_law_371 pl_13_48 rfl ⟨Nat.le_of_ble_eq_true rfl, Nat.le_of_ble_eq_true rfl⟩ rfl rfl rfl s0_142 (Nat.le_of_ble_eq_true rfl) (by omega) rfl rfl (pm_zc _) ((hr2 M1 iv) sc (d - 1) (by omega)) (fun r M2 h2 => ?_)
    obtain ⟨q1, q2, q3, q4⟩ := h2
    subst q1
    refine fr_istore (ls2 := [(4, 0), (2, 0), (2, 142), (2, 177), (0, i), (0, 1), (0, r)]) (pc := 374) dL_law_374 rfl (Nat.le_of_ble_eq_true rfl) rfl ?_
    refine fr_aload_n (pc := 376) dL_law_376 rfl rfl ?_
    refine fr_inVI (a := 142) (as := []) (rest := []) (ls' := [(2, 142)]) (c1 := 0) (c2 := 153 * n) (K := fun y M3 => y = gI M2 142 0 ∧ M3 = M2) (pc := 377) dL_law_377 pl_13_42 rfl ⟨Nat.le_of_ble_eq_true rfl, Nat.le_of_ble_eq_true rfl⟩ rfl rfl rfl s0_142 (Nat.le_of_ble_eq_true rfl) (by omega) rfl rfl (pm_zc _) (thrown_r sc (d - 1)) (fun y M3 h3 => ?_)
    obtain ⟨u1, u2⟩ := h3
    subst u2
    rw [q3, ← e1] at u1
    subst u1
    refine fr_iload (pc := 380) dL_law_380 rfl rfl ?_
    refine fr_icmT (tg := 387) (pc := 382) dL_law_382 (by decide) rfl ?_
    refine fr_iload (pc := 387) dL_law_387 rfl rfl ?_
    refine fr_ifcT (tg := 404) (pc := 389) dL_law_389 (by decide) rfl ?_
    refine fr_goto (tg := 993) (pc := 404) dL_law_404 rfl ?_
    exact nxt _ _ _ (by decide) (by exact pm_t0) q2
theorem law_run {sc : Nat × (Nat → Int)} {d n : Nat} {i : Int} {z5 z6 : pm_V} {M : pm_M} {Q : Option pm_V → pm_M → Prop} (hd : 900 ≤ d) (hz5 : z5.1 ≠ 1) (hz6 : z6.1 ≠ 1) (hi : 0 ≤ i ∧ i + 6 ≤ (sc.1 : Int) ∧ sc.1 ≤ 3072) (h32 : ∀ j, sc.2 j < 2147483648) (h : INV M) (nxt : ∀ (M2 : pm_M) (z5 z6 : pm_V), z5.1 ≠ 1 → z6.1 ≠ 1 → INV M2 → pm_Fr sc d (153 * n) mL_law 993 [(4, 0), (2, 0), (2, 142), (2, 177), (0, i), z5, z6] [] M2 Q) : pm_Fr sc d (153 * n + 153) mL_law 407 [(4, 0), (2, 0), (2, 142), (2, 177), (0, i), z5, z6] [] M Q := by
  have hcl := lp_same (k := k11_run (sc.2 (i + 1).toNat) (sc.2 (i + 2).toNat)) (k' := k12_run (sc.2 (i + 1).toNat) (sc.2 (i + 2).toNat)) (fun P T nT hW hK hI hn => op_run hW hn _ _) (K := fun r1 r2 M2 => r1 = r2 ∧ INV M2) h (fun a M2 h2 => ⟨rfl, h2⟩)
  refine fr_aload_n (pc := 407) dL_law_407 rfl rfl ?_
  refine la_arg (p := 408) (j := 1) dL_law_408 dL_law_409 dL_law_411 dL_law_412 dL_law_413 (by decide) hi ?_
  refine la_arg (p := 414) (j := 2) dL_law_414 dL_law_415 dL_law_417 dL_law_418 dL_law_419 (by decide) hi ?_
  refine fr_inVI (a := 0) (as := [(0, (sc.2 (i + 1).toNat)), (0, (sc.2 (i + 2).toNat))]) (rest := []) (ls' := [(2, 0), (0, (sc.2 (i + 1).toNat)), (0, (sc.2 (i + 2).toNat))]) (c1 := 0) (c2 := 153 * n + 153) (pc := 420) dL_law_420 pl_13_49 rfl ⟨Nat.le_of_ble_eq_true rfl, Nat.le_of_ble_eq_true rfl⟩ rfl rfl rfl s0_0 (Nat.le_of_ble_eq_true rfl) (by omega) rfl rfl (by omega) (hcl sc (d - 1) (by omega)) (fun r1 M1 h1 => ?_)
  refine fr_aload_n (pc := 423) dL_law_423 rfl rfl ?_
  refine la_arg (p := 424) (j := 1) dL_law_424 dL_law_425 dL_law_427 dL_law_428 dL_law_429 (by decide) hi ?_
  refine la_arg (p := 430) (j := 2) dL_law_430 dL_law_431 dL_law_433 dL_law_434 dL_law_435 (by decide) hi ?_
  refine fr_inVI (a := 142) (as := [(0, (sc.2 (i + 1).toNat)), (0, (sc.2 (i + 2).toNat))]) (rest := [(0, r1)]) (ls' := [(2, 142), (0, (sc.2 (i + 1).toNat)), (0, (sc.2 (i + 2).toNat)), (9, 0)]) (c1 := 0) (c2 := 153 * n) (pc := 436) dL_law_436 pl_13_52 rfl ⟨Nat.le_of_ble_eq_true rfl, Nat.le_of_ble_eq_true rfl⟩ rfl rfl rfl s0_142 (Nat.le_of_ble_eq_true rfl) (by omega) rfl rfl (by omega) (h1 sc (d - 1) (by omega)) (fun r2 M2 h2 => ?_)
  obtain ⟨eq, iv⟩ := h2
  subst eq
  refine fr_icmT (tg := 993) (pc := 439) dL_law_439 (decide_eq_true rfl) rfl ?_
  exact nxt M2 z5 z6 hz5 hz6 iv
theorem law_done {sc : Nat × (Nat → Int)} {d n : Nat} {i : Int} {z5 z6 : pm_V} {M : pm_M} {Q : Option pm_V → pm_M → Prop} (hd : 900 ≤ d) (hz5 : z5.1 ≠ 1) (hz6 : z6.1 ≠ 1) (hi : 0 ≤ i ∧ i + 6 ≤ (sc.1 : Int) ∧ sc.1 ≤ 3072) (h32 : ∀ j, sc.2 j < 2147483648) (h : INV M) (nxt : ∀ (M2 : pm_M) (z5 z6 : pm_V), z5.1 ≠ 1 → z6.1 ≠ 1 → INV M2 → pm_Fr sc d (153 * n) mL_law 993 [(4, 0), (2, 0), (2, 142), (2, 177), (0, i), z5, z6] [] M2 Q) : pm_Fr sc d (153 * n + 153) mL_law 444 [(4, 0), (2, 0), (2, 142), (2, 177), (0, i), z5, z6] [] M Q := by
  have hcl := lp_same (k := k11_done (sc.2 (i + 1).toNat) (sc.2 (i + 2).toNat)) (k' := k12_done (sc.2 (i + 1).toNat) (sc.2 (i + 2).toNat)) (fun P T nT hW hK hI hn => op_done hW hn _ _) (K := fun r1 r2 M2 => r1 = r2 ∧ INV M2) h (fun a M2 h2 => ⟨rfl, h2⟩)
  refine fr_aload_n (pc := 444) dL_law_444 rfl rfl ?_
  refine la_arg (p := 445) (j := 1) dL_law_445 dL_law_446 dL_law_448 dL_law_449 dL_law_450 (by decide) hi ?_
  refine la_arg (p := 451) (j := 2) dL_law_451 dL_law_452 dL_law_454 dL_law_455 dL_law_456 (by decide) hi ?_
  refine fr_inVI (a := 0) (as := [(0, (sc.2 (i + 1).toNat)), (0, (sc.2 (i + 2).toNat))]) (rest := []) (ls' := [(2, 0), (0, (sc.2 (i + 1).toNat)), (0, (sc.2 (i + 2).toNat))]) (c1 := 0) (c2 := 153 * n + 153) (pc := 457) dL_law_457 pl_13_53 rfl ⟨Nat.le_of_ble_eq_true rfl, Nat.le_of_ble_eq_true rfl⟩ rfl rfl rfl s0_0 (Nat.le_of_ble_eq_true rfl) (by omega) rfl rfl (by omega) (hcl sc (d - 1) (by omega)) (fun r1 M1 h1 => ?_)
  refine fr_aload_n (pc := 460) dL_law_460 rfl rfl ?_
  refine la_arg (p := 461) (j := 1) dL_law_461 dL_law_462 dL_law_464 dL_law_465 dL_law_466 (by decide) hi ?_
  refine la_arg (p := 467) (j := 2) dL_law_467 dL_law_468 dL_law_470 dL_law_471 dL_law_472 (by decide) hi ?_
  refine fr_inVI (a := 142) (as := [(0, (sc.2 (i + 1).toNat)), (0, (sc.2 (i + 2).toNat))]) (rest := [(0, r1)]) (ls' := [(2, 142), (0, (sc.2 (i + 1).toNat)), (0, (sc.2 (i + 2).toNat))]) (c1 := 0) (c2 := 153 * n) (pc := 473) dL_law_473 pl_13_56 rfl ⟨Nat.le_of_ble_eq_true rfl, Nat.le_of_ble_eq_true rfl⟩ rfl rfl rfl s0_142 (Nat.le_of_ble_eq_true rfl) (by omega) rfl rfl (by omega) (h1 sc (d - 1) (by omega)) (fun r2 M2 h2 => ?_)
  obtain ⟨eq, iv⟩ := h2
  subst eq
  refine fr_icmT (tg := 993) (pc := 476) dL_law_476 (decide_eq_true rfl) rfl ?_
  exact nxt M2 z5 z6 hz5 hz6 iv
theorem law_trace {sc : Nat × (Nat → Int)} {d n : Nat} {i : Int} {z5 z6 : pm_V} {M : pm_M} {Q : Option pm_V → pm_M → Prop} (hd : 900 ≤ d) (hz5 : z5.1 ≠ 1) (hz6 : z6.1 ≠ 1) (hi : 0 ≤ i ∧ i + 6 ≤ (sc.1 : Int) ∧ sc.1 ≤ 3072) (h32 : ∀ j, sc.2 j < 2147483648) (h : INV M) (nxt : ∀ (M2 : pm_M) (z5 z6 : pm_V), z5.1 ≠ 1 → z6.1 ≠ 1 → INV M2 → pm_Fr sc d (153 * n) mL_law 993 [(4, 0), (2, 0), (2, 142), (2, 177), (0, i), z5, z6] [] M2 Q) : pm_Fr sc d (153 * n + 153) mL_law 481 [(4, 0), (2, 0), (2, 142), (2, 177), (0, i), z5, z6] [] M Q := by
  have hcl := lp_same (k := k11_trace (sc.2 (i + 1).toNat) (sc.2 (i + 2).toNat)) (k' := k12_trace (sc.2 (i + 1).toNat) (sc.2 (i + 2).toNat)) (fun P T nT hW hK hI hn => op_trace hW hn _ _) (K := fun r1 r2 M2 => r1 = r2 ∧ INV M2) h (fun a M2 h2 => ⟨rfl, h2⟩)
  refine fr_aload_n (pc := 481) dL_law_481 rfl rfl ?_
  refine la_arg (p := 482) (j := 1) dL_law_482 dL_law_483 dL_law_485 dL_law_486 dL_law_487 (by decide) hi ?_
  refine la_arg (p := 488) (j := 2) dL_law_488 dL_law_489 dL_law_491 dL_law_492 dL_law_493 (by decide) hi ?_
  refine fr_inVI (a := 0) (as := [(0, (sc.2 (i + 1).toNat)), (0, (sc.2 (i + 2).toNat))]) (rest := []) (ls' := [(2, 0), (0, (sc.2 (i + 1).toNat)), (0, (sc.2 (i + 2).toNat))]) (c1 := 0) (c2 := 153 * n + 153) (pc := 494) dL_law_494 pl_13_57 rfl ⟨Nat.le_of_ble_eq_true rfl, Nat.le_of_ble_eq_true rfl⟩ rfl rfl rfl s0_0 (Nat.le_of_ble_eq_true rfl) (by omega) rfl rfl (by omega) (hcl sc (d - 1) (by omega)) (fun r1 M1 h1 => ?_)
  refine fr_aload_n (pc := 497) dL_law_497 rfl rfl ?_
  refine la_arg (p := 498) (j := 1) dL_law_498 dL_law_499 dL_law_501 dL_law_502 dL_law_503 (by decide) hi ?_
  refine la_arg (p := 504) (j := 2) dL_law_504 dL_law_505 dL_law_507 dL_law_508 dL_law_509 (by decide) hi ?_
  refine fr_inVI (a := 142) (as := [(0, (sc.2 (i + 1).toNat)), (0, (sc.2 (i + 2).toNat))]) (rest := [(0, r1)]) (ls' := [(2, 142), (0, (sc.2 (i + 1).toNat)), (0, (sc.2 (i + 2).toNat))]) (c1 := 0) (c2 := 153 * n) (pc := 510) dL_law_510 pl_13_60 rfl ⟨Nat.le_of_ble_eq_true rfl, Nat.le_of_ble_eq_true rfl⟩ rfl rfl rfl s0_142 (Nat.le_of_ble_eq_true rfl) (by omega) rfl rfl (by omega) (h1 sc (d - 1) (by omega)) (fun r2 M2 h2 => ?_)
  obtain ⟨eq, iv⟩ := h2
  subst eq
  refine fr_icmT (tg := 993) (pc := 513) dL_law_513 (decide_eq_true rfl) rfl ?_
  exact nxt M2 z5 z6 hz5 hz6 iv
theorem law_spectrum {sc : Nat × (Nat → Int)} {d n : Nat} {i : Int} {z5 z6 : pm_V} {M : pm_M} {Q : Option pm_V → pm_M → Prop} (hd : 900 ≤ d) (hz5 : z5.1 ≠ 1) (hz6 : z6.1 ≠ 1) (hi : 0 ≤ i ∧ i + 6 ≤ (sc.1 : Int) ∧ sc.1 ≤ 3072) (h32 : ∀ j, sc.2 j < 2147483648) (h : INV M) (nxt : ∀ (M2 : pm_M) (z5 z6 : pm_V), z5.1 ≠ 1 → z6.1 ≠ 1 → INV M2 → pm_Fr sc d (153 * n) mL_law 993 [(4, 0), (2, 0), (2, 142), (2, 177), (0, i), z5, z6] [] M2 Q) : pm_Fr sc d (153 * n + 153) mL_law 518 [(4, 0), (2, 0), (2, 142), (2, 177), (0, i), z5, z6] [] M Q := by
  have hcl := lp_same (k := k11_spectrum (sc.2 (i + 1).toNat) (sc.2 (i + 2).toNat)) (k' := k12_spectrum (sc.2 (i + 1).toNat) (sc.2 (i + 2).toNat)) (fun P T nT hW hK hI hn => op_spectrum hW hn _ _) (K := fun r1 r2 M2 => r1 = r2 ∧ INV M2) h (fun a M2 h2 => ⟨rfl, h2⟩)
  refine fr_aload_n (pc := 518) dL_law_518 rfl rfl ?_
  refine la_arg (p := 519) (j := 1) dL_law_519 dL_law_520 dL_law_522 dL_law_523 dL_law_524 (by decide) hi ?_
  refine la_arg (p := 525) (j := 2) dL_law_525 dL_law_526 dL_law_528 dL_law_529 dL_law_530 (by decide) hi ?_
  refine fr_inVI (a := 0) (as := [(0, (sc.2 (i + 1).toNat)), (0, (sc.2 (i + 2).toNat))]) (rest := []) (ls' := [(2, 0), (0, (sc.2 (i + 1).toNat)), (0, (sc.2 (i + 2).toNat))]) (c1 := 0) (c2 := 153 * n + 153) (pc := 531) dL_law_531 pl_13_61 rfl ⟨Nat.le_of_ble_eq_true rfl, Nat.le_of_ble_eq_true rfl⟩ rfl rfl rfl s0_0 (Nat.le_of_ble_eq_true rfl) (by omega) rfl rfl (by omega) (hcl sc (d - 1) (by omega)) (fun r1 M1 h1 => ?_)
  refine fr_aload_n (pc := 534) dL_law_534 rfl rfl ?_
  refine la_arg (p := 535) (j := 1) dL_law_535 dL_law_536 dL_law_538 dL_law_539 dL_law_540 (by decide) hi ?_
  refine la_arg (p := 541) (j := 2) dL_law_541 dL_law_542 dL_law_544 dL_law_545 dL_law_546 (by decide) hi ?_
  refine fr_inVI (a := 142) (as := [(0, (sc.2 (i + 1).toNat)), (0, (sc.2 (i + 2).toNat))]) (rest := [(0, r1)]) (ls' := [(2, 142), (0, (sc.2 (i + 1).toNat)), (0, (sc.2 (i + 2).toNat))]) (c1 := 0) (c2 := 153 * n) (pc := 547) dL_law_547 pl_13_64 rfl ⟨Nat.le_of_ble_eq_true rfl, Nat.le_of_ble_eq_true rfl⟩ rfl rfl rfl s0_142 (Nat.le_of_ble_eq_true rfl) (by omega) rfl rfl (by omega) (h1 sc (d - 1) (by omega)) (fun r2 M2 h2 => ?_)
  obtain ⟨eq, iv⟩ := h2
  subst eq
  refine fr_icmT (tg := 993) (pc := 550) dL_law_550 (decide_eq_true rfl) rfl ?_
  exact nxt M2 z5 z6 hz5 hz6 iv
theorem law_score {sc : Nat × (Nat → Int)} {d n : Nat} {i : Int} {z5 z6 : pm_V} {M : pm_M} {Q : Option pm_V → pm_M → Prop} (hd : 900 ≤ d) (hz5 : z5.1 ≠ 1) (hz6 : z6.1 ≠ 1) (hi : 0 ≤ i ∧ i + 6 ≤ (sc.1 : Int) ∧ sc.1 ≤ 3072) (h32 : ∀ j, sc.2 j < 2147483648) (h : INV M) (nxt : ∀ (M2 : pm_M) (z5 z6 : pm_V), z5.1 ≠ 1 → z6.1 ≠ 1 → INV M2 → pm_Fr sc d (153 * n) mL_law 993 [(4, 0), (2, 0), (2, 142), (2, 177), (0, i), z5, z6] [] M2 Q) : pm_Fr sc d (153 * n + 153) mL_law 555 [(4, 0), (2, 0), (2, 142), (2, 177), (0, i), z5, z6] [] M Q := by
  have hcl := lp_same (k := k11_score (sc.2 (i + 1).toNat) (sc.2 (i + 2).toNat) (sc.2 (i + 3).toNat)) (k' := k12_score (sc.2 (i + 1).toNat) (sc.2 (i + 2).toNat) (sc.2 (i + 3).toNat)) (fun P T nT hW hK hI hn => op_score hW hn _ _ _) (K := fun r1 r2 M2 => r1 = r2 ∧ INV M2) h (fun a M2 h2 => ⟨rfl, h2⟩)
  refine fr_aload_n (pc := 555) dL_law_555 rfl rfl ?_
  refine la_arg (p := 556) (j := 1) dL_law_556 dL_law_557 dL_law_559 dL_law_560 dL_law_561 (by decide) hi ?_
  refine la_arg (p := 562) (j := 2) dL_law_562 dL_law_563 dL_law_565 dL_law_566 dL_law_567 (by decide) hi ?_
  refine la_arg (p := 568) (j := 3) dL_law_568 dL_law_569 dL_law_571 dL_law_572 dL_law_573 (by decide) hi ?_
  refine fr_inVI (a := 0) (as := [(0, (sc.2 (i + 1).toNat)), (0, (sc.2 (i + 2).toNat)), (0, (sc.2 (i + 3).toNat))]) (rest := []) (ls' := [(2, 0), (0, (sc.2 (i + 1).toNat)), (0, (sc.2 (i + 2).toNat)), (0, (sc.2 (i + 3).toNat))]) (c1 := 0) (c2 := 153 * n + 153) (pc := 574) dL_law_574 pl_13_65 rfl ⟨Nat.le_of_ble_eq_true rfl, Nat.le_of_ble_eq_true rfl⟩ rfl rfl rfl s0_0 (Nat.le_of_ble_eq_true rfl) (by omega) rfl rfl (by omega) (hcl sc (d - 1) (by omega)) (fun r1 M1 h1 => ?_)
  refine fr_aload_n (pc := 577) dL_law_577 rfl rfl ?_
  refine la_arg (p := 578) (j := 1) dL_law_578 dL_law_579 dL_law_581 dL_law_582 dL_law_583 (by decide) hi ?_
  refine la_arg (p := 584) (j := 2) dL_law_584 dL_law_585 dL_law_587 dL_law_588 dL_law_589 (by decide) hi ?_
  refine la_arg (p := 590) (j := 3) dL_law_590 dL_law_591 dL_law_593 dL_law_594 dL_law_595 (by decide) hi ?_
  refine fr_inVI (a := 142) (as := [(0, (sc.2 (i + 1).toNat)), (0, (sc.2 (i + 2).toNat)), (0, (sc.2 (i + 3).toNat))]) (rest := [(0, r1)]) (ls' := [(2, 142), (0, (sc.2 (i + 1).toNat)), (0, (sc.2 (i + 2).toNat)), (0, (sc.2 (i + 3).toNat))]) (c1 := 0) (c2 := 153 * n) (pc := 596) dL_law_596 pl_13_69 rfl ⟨Nat.le_of_ble_eq_true rfl, Nat.le_of_ble_eq_true rfl⟩ rfl rfl rfl s0_142 (Nat.le_of_ble_eq_true rfl) (by omega) rfl rfl (by omega) (h1 sc (d - 1) (by omega)) (fun r2 M2 h2 => ?_)
  obtain ⟨eq, iv⟩ := h2
  subst eq
  refine fr_icmT (tg := 993) (pc := 599) dL_law_599 (decide_eq_true rfl) rfl ?_
  exact nxt M2 z5 z6 hz5 hz6 iv
theorem law_suspect {sc : Nat × (Nat → Int)} {d n : Nat} {i : Int} {z5 z6 : pm_V} {M : pm_M} {Q : Option pm_V → pm_M → Prop} (hd : 900 ≤ d) (hz5 : z5.1 ≠ 1) (hz6 : z6.1 ≠ 1) (hi : 0 ≤ i ∧ i + 6 ≤ (sc.1 : Int) ∧ sc.1 ≤ 3072) (h32 : ∀ j, sc.2 j < 2147483648) (h : INV M) (nxt : ∀ (M2 : pm_M) (z5 z6 : pm_V), z5.1 ≠ 1 → z6.1 ≠ 1 → INV M2 → pm_Fr sc d (153 * n) mL_law 993 [(4, 0), (2, 0), (2, 142), (2, 177), (0, i), z5, z6] [] M2 Q) : pm_Fr sc d (153 * n + 153) mL_law 604 [(4, 0), (2, 0), (2, 142), (2, 177), (0, i), z5, z6] [] M Q := by
  have hcl := lp_same (k := k11_suspect (sc.2 (i + 1).toNat) (sc.2 (i + 2).toNat)) (k' := k12_suspect (sc.2 (i + 1).toNat) (sc.2 (i + 2).toNat)) (fun P T nT hW hK hI hn => op_suspect hW hn _ _) (K := fun r1 r2 M2 => r1 = r2 ∧ INV M2) h (fun a M2 h2 => ⟨rfl, h2⟩)
  refine fr_aload_n (pc := 604) dL_law_604 rfl rfl ?_
  refine la_arg (p := 605) (j := 1) dL_law_605 dL_law_606 dL_law_608 dL_law_609 dL_law_610 (by decide) hi ?_
  refine la_arg (p := 611) (j := 2) dL_law_611 dL_law_612 dL_law_614 dL_law_615 dL_law_616 (by decide) hi ?_
  refine fr_inVI (a := 0) (as := [(0, (sc.2 (i + 1).toNat)), (0, (sc.2 (i + 2).toNat))]) (rest := []) (ls' := [(2, 0), (0, (sc.2 (i + 1).toNat)), (0, (sc.2 (i + 2).toNat))]) (c1 := 0) (c2 := 153 * n + 153) (pc := 617) dL_law_617 pl_13_70 rfl ⟨Nat.le_of_ble_eq_true rfl, Nat.le_of_ble_eq_true rfl⟩ rfl rfl rfl s0_0 (Nat.le_of_ble_eq_true rfl) (by omega) rfl rfl (by omega) (hcl sc (d - 1) (by omega)) (fun r1 M1 h1 => ?_)
  refine fr_aload_n (pc := 620) dL_law_620 rfl rfl ?_
  refine la_arg (p := 621) (j := 1) dL_law_621 dL_law_622 dL_law_624 dL_law_625 dL_law_626 (by decide) hi ?_
  refine la_arg (p := 627) (j := 2) dL_law_627 dL_law_628 dL_law_630 dL_law_631 dL_law_632 (by decide) hi ?_
  refine fr_inVI (a := 142) (as := [(0, (sc.2 (i + 1).toNat)), (0, (sc.2 (i + 2).toNat))]) (rest := [(0, r1)]) (ls' := [(2, 142), (0, (sc.2 (i + 1).toNat)), (0, (sc.2 (i + 2).toNat)), (9, 0)]) (c1 := 0) (c2 := 153 * n) (pc := 633) dL_law_633 pl_13_73 rfl ⟨Nat.le_of_ble_eq_true rfl, Nat.le_of_ble_eq_true rfl⟩ rfl rfl rfl s0_142 (Nat.le_of_ble_eq_true rfl) (by omega) rfl rfl (by omega) (h1 sc (d - 1) (by omega)) (fun r2 M2 h2 => ?_)
  obtain ⟨eq, iv⟩ := h2
  subst eq
  refine fr_icmT (tg := 993) (pc := 636) dL_law_636 (decide_eq_true rfl) rfl ?_
  exact nxt M2 z5 z6 hz5 hz6 iv
theorem law_changes {sc : Nat × (Nat → Int)} {d n : Nat} {i : Int} {z5 z6 : pm_V} {M : pm_M} {Q : Option pm_V → pm_M → Prop} (hd : 900 ≤ d) (hz5 : z5.1 ≠ 1) (hz6 : z6.1 ≠ 1) (hi : 0 ≤ i ∧ i + 6 ≤ (sc.1 : Int) ∧ sc.1 ≤ 3072) (h32 : ∀ j, sc.2 j < 2147483648) (h : INV M) (nxt : ∀ (M2 : pm_M) (z5 z6 : pm_V), z5.1 ≠ 1 → z6.1 ≠ 1 → INV M2 → pm_Fr sc d (153 * n) mL_law 993 [(4, 0), (2, 0), (2, 142), (2, 177), (0, i), z5, z6] [] M2 Q) : pm_Fr sc d (153 * n + 153) mL_law 641 [(4, 0), (2, 0), (2, 142), (2, 177), (0, i), z5, z6] [] M Q := by
  have hcl := lp_same (k := k11_changes (sc.2 (i + 1).toNat)) (k' := k12_changes (sc.2 (i + 1).toNat)) (fun P T nT hW hK hI hn => op_changes hW _) (K := fun r1 r2 M2 => r1 = r2 ∧ INV M2) h (fun a M2 h2 => ⟨rfl, h2⟩)
  refine fr_aload_n (pc := 641) dL_law_641 rfl rfl ?_
  refine la_arg (p := 642) (j := 1) dL_law_642 dL_law_643 dL_law_645 dL_law_646 dL_law_647 (by decide) hi ?_
  refine fr_inVI (a := 0) (as := [(0, (sc.2 (i + 1).toNat))]) (rest := []) (ls' := [(2, 0), (0, (sc.2 (i + 1).toNat))]) (c1 := 0) (c2 := 153 * n + 153) (pc := 648) dL_law_648 pl_13_74 rfl ⟨Nat.le_of_ble_eq_true rfl, Nat.le_of_ble_eq_true rfl⟩ rfl rfl rfl s0_0 (Nat.le_of_ble_eq_true rfl) (by omega) rfl rfl (by omega) (hcl sc (d - 1) (by omega)) (fun r1 M1 h1 => ?_)
  refine fr_aload_n (pc := 651) dL_law_651 rfl rfl ?_
  refine la_arg (p := 652) (j := 1) dL_law_652 dL_law_653 dL_law_655 dL_law_656 dL_law_657 (by decide) hi ?_
  refine fr_inVI (a := 142) (as := [(0, (sc.2 (i + 1).toNat))]) (rest := [(0, r1)]) (ls' := [(2, 142), (0, (sc.2 (i + 1).toNat))]) (c1 := 0) (c2 := 153 * n) (pc := 658) dL_law_658 pl_13_77 rfl ⟨Nat.le_of_ble_eq_true rfl, Nat.le_of_ble_eq_true rfl⟩ rfl rfl rfl s0_142 (Nat.le_of_ble_eq_true rfl) (by omega) rfl rfl (by omega) (h1 sc (d - 1) (by omega)) (fun r2 M2 h2 => ?_)
  obtain ⟨eq, iv⟩ := h2
  subst eq
  refine fr_icmT (tg := 993) (pc := 661) dL_law_661 (decide_eq_true rfl) rfl ?_
  exact nxt M2 z5 z6 hz5 hz6 iv
theorem law_change {sc : Nat × (Nat → Int)} {d n : Nat} {i : Int} {z5 z6 : pm_V} {M : pm_M} {Q : Option pm_V → pm_M → Prop} (hd : 900 ≤ d) (hz5 : z5.1 ≠ 1) (hz6 : z6.1 ≠ 1) (hi : 0 ≤ i ∧ i + 6 ≤ (sc.1 : Int) ∧ sc.1 ≤ 3072) (h32 : ∀ j, sc.2 j < 2147483648) (h : INV M) (nxt : ∀ (M2 : pm_M) (z5 z6 : pm_V), z5.1 ≠ 1 → z6.1 ≠ 1 → INV M2 → pm_Fr sc d (153 * n) mL_law 993 [(4, 0), (2, 0), (2, 142), (2, 177), (0, i), z5, z6] [] M2 Q) : pm_Fr sc d (153 * n + 153) mL_law 666 [(4, 0), (2, 0), (2, 142), (2, 177), (0, i), z5, z6] [] M Q := by
  have hcl := lp_same (k := k11_change (sc.2 (i + 1).toNat) (sc.2 (i + 2).toNat) (sc.2 (i + 3).toNat)) (k' := k12_change (sc.2 (i + 1).toNat) (sc.2 (i + 2).toNat) (sc.2 (i + 3).toNat)) (fun P T nT hW hK hI hn => op_change hW hn _ _ _ (h32 _)) (K := fun r1 r2 M2 => r1 = r2 ∧ INV M2) h (fun a M2 h2 => ⟨rfl, h2⟩)
  refine fr_aload_n (pc := 666) dL_law_666 rfl rfl ?_
  refine la_arg (p := 667) (j := 1) dL_law_667 dL_law_668 dL_law_670 dL_law_671 dL_law_672 (by decide) hi ?_
  refine la_arg (p := 673) (j := 2) dL_law_673 dL_law_674 dL_law_676 dL_law_677 dL_law_678 (by decide) hi ?_
  refine la_arg (p := 679) (j := 3) dL_law_679 dL_law_680 dL_law_682 dL_law_683 dL_law_684 (by decide) hi ?_
  refine fr_inVI (a := 0) (as := [(0, (sc.2 (i + 1).toNat)), (0, (sc.2 (i + 2).toNat)), (0, (sc.2 (i + 3).toNat))]) (rest := []) (ls' := [(2, 0), (0, (sc.2 (i + 1).toNat)), (0, (sc.2 (i + 2).toNat)), (0, (sc.2 (i + 3).toNat))]) (c1 := 0) (c2 := 153 * n + 153) (pc := 685) dL_law_685 pl_13_78 rfl ⟨Nat.le_of_ble_eq_true rfl, Nat.le_of_ble_eq_true rfl⟩ rfl rfl rfl s0_0 (Nat.le_of_ble_eq_true rfl) (by omega) rfl rfl (by omega) (hcl sc (d - 1) (by omega)) (fun r1 M1 h1 => ?_)
  refine fr_aload_n (pc := 688) dL_law_688 rfl rfl ?_
  refine la_arg (p := 689) (j := 1) dL_law_689 dL_law_690 dL_law_692 dL_law_693 dL_law_694 (by decide) hi ?_
  refine la_arg (p := 695) (j := 2) dL_law_695 dL_law_696 dL_law_698 dL_law_699 dL_law_700 (by decide) hi ?_
  refine la_arg (p := 701) (j := 3) dL_law_701 dL_law_702 dL_law_704 dL_law_705 dL_law_706 (by decide) hi ?_
  refine fr_inVI (a := 142) (as := [(0, (sc.2 (i + 1).toNat)), (0, (sc.2 (i + 2).toNat)), (0, (sc.2 (i + 3).toNat))]) (rest := [(0, r1)]) (ls' := [(2, 142), (0, (sc.2 (i + 1).toNat)), (0, (sc.2 (i + 2).toNat)), (0, (sc.2 (i + 3).toNat)), (9, 0), (9, 0), (9, 0)]) (c1 := 0) (c2 := 153 * n) (pc := 707) dL_law_707 pl_13_81 rfl ⟨Nat.le_of_ble_eq_true rfl, Nat.le_of_ble_eq_true rfl⟩ rfl rfl rfl s0_142 (Nat.le_of_ble_eq_true rfl) (by omega) rfl rfl (by omega) (h1 sc (d - 1) (by omega)) (fun r2 M2 h2 => ?_)
  obtain ⟨eq, iv⟩ := h2
  subst eq
  refine fr_icmT (tg := 993) (pc := 710) dL_law_710 (decide_eq_true rfl) rfl ?_
  exact nxt M2 z5 z6 hz5 hz6 iv
theorem law_mend {sc : Nat × (Nat → Int)} {d n : Nat} {i : Int} {z5 z6 : pm_V} {M : pm_M} {Q : Option pm_V → pm_M → Prop} (hd : 900 ≤ d) (hz5 : z5.1 ≠ 1) (hz6 : z6.1 ≠ 1) (hi : 0 ≤ i ∧ i + 6 ≤ (sc.1 : Int) ∧ sc.1 ≤ 3072) (h32 : ∀ j, sc.2 j < 2147483648) (h : INV M) (nxt : ∀ (M2 : pm_M) (z5 z6 : pm_V), z5.1 ≠ 1 → z6.1 ≠ 1 → INV M2 → pm_Fr sc d (153 * n) mL_law 993 [(4, 0), (2, 0), (2, 142), (2, 177), (0, i), z5, z6] [] M2 Q) : pm_Fr sc d (153 * n + 153) mL_law 715 [(4, 0), (2, 0), (2, 142), (2, 177), (0, i), z5, z6] [] M Q := by
  have hcl := lp_same (k := k11_mend (sc.2 (i + 1).toNat) (sc.2 (i + 2).toNat)) (k' := k12_mend (sc.2 (i + 1).toNat) (sc.2 (i + 2).toNat)) (fun P T nT hW hK hI hn => op_mend hW hI hn _ _) (K := fun r1 r2 M2 => r1 = r2 ∧ INV M2) h (fun a M2 h2 => ⟨rfl, h2⟩)
  refine fr_aload_n (pc := 715) dL_law_715 rfl rfl ?_
  refine la_arg (p := 716) (j := 1) dL_law_716 dL_law_717 dL_law_719 dL_law_720 dL_law_721 (by decide) hi ?_
  refine la_arg (p := 722) (j := 2) dL_law_722 dL_law_723 dL_law_725 dL_law_726 dL_law_727 (by decide) hi ?_
  refine fr_inVI (a := 0) (as := [(0, (sc.2 (i + 1).toNat)), (0, (sc.2 (i + 2).toNat))]) (rest := []) (ls' := [(2, 0), (0, (sc.2 (i + 1).toNat)), (0, (sc.2 (i + 2).toNat))]) (c1 := 0) (c2 := 153 * n + 153) (pc := 728) dL_law_728 pl_13_82 rfl ⟨Nat.le_of_ble_eq_true rfl, Nat.le_of_ble_eq_true rfl⟩ rfl rfl rfl s0_0 (Nat.le_of_ble_eq_true rfl) (by omega) rfl rfl (by omega) (hcl sc (d - 1) (by omega)) (fun r1 M1 h1 => ?_)
  refine fr_aload_n (pc := 731) dL_law_731 rfl rfl ?_
  refine la_arg (p := 732) (j := 1) dL_law_732 dL_law_733 dL_law_735 dL_law_736 dL_law_737 (by decide) hi ?_
  refine la_arg (p := 738) (j := 2) dL_law_738 dL_law_739 dL_law_741 dL_law_742 dL_law_743 (by decide) hi ?_
  refine fr_inVI (a := 142) (as := [(0, (sc.2 (i + 1).toNat)), (0, (sc.2 (i + 2).toNat))]) (rest := [(0, r1)]) (ls' := [(2, 142), (0, (sc.2 (i + 1).toNat)), (0, (sc.2 (i + 2).toNat))]) (c1 := 0) (c2 := 153 * n) (pc := 744) dL_law_744 pl_13_85 rfl ⟨Nat.le_of_ble_eq_true rfl, Nat.le_of_ble_eq_true rfl⟩ rfl rfl rfl s0_142 (Nat.le_of_ble_eq_true rfl) (by omega) rfl rfl (by omega) (h1 sc (d - 1) (by omega)) (fun r2 M2 h2 => ?_)
  obtain ⟨eq, iv⟩ := h2
  subst eq
  refine fr_icmT (tg := 993) (pc := 747) dL_law_747 (decide_eq_true rfl) rfl ?_
  exact nxt M2 z5 z6 hz5 hz6 iv
theorem law_unlike {sc : Nat × (Nat → Int)} {d n : Nat} {i : Int} {z5 z6 : pm_V} {M : pm_M} {Q : Option pm_V → pm_M → Prop} (hd : 900 ≤ d) (hz5 : z5.1 ≠ 1) (hz6 : z6.1 ≠ 1) (hi : 0 ≤ i ∧ i + 6 ≤ (sc.1 : Int) ∧ sc.1 ≤ 3072) (h32 : ∀ j, sc.2 j < 2147483648) (h : INV M) (nxt : ∀ (M2 : pm_M) (z5 z6 : pm_V), z5.1 ≠ 1 → z6.1 ≠ 1 → INV M2 → pm_Fr sc d (153 * n) mL_law 993 [(4, 0), (2, 0), (2, 142), (2, 177), (0, i), z5, z6] [] M2 Q) : pm_Fr sc d (153 * n + 153) mL_law 752 [(4, 0), (2, 0), (2, 142), (2, 177), (0, i), z5, z6] [] M Q := by
  have hcl := lp_same (k := k11_unlike) (k' := k12_unlike) (fun P T nT hW hK hI hn => op_unlike hW hI) (K := fun r1 r2 M2 => r1 = r2 ∧ INV M2) h (fun a M2 h2 => ⟨rfl, h2⟩)
  refine fr_aload_n (pc := 752) dL_law_752 rfl rfl ?_
  refine fr_inVI (a := 0) (as := []) (rest := []) (ls' := [(2, 0)]) (c1 := 0) (c2 := 153 * n + 153) (pc := 753) dL_law_753 pl_13_86 rfl ⟨Nat.le_of_ble_eq_true rfl, Nat.le_of_ble_eq_true rfl⟩ rfl rfl rfl s0_0 (Nat.le_of_ble_eq_true rfl) (by omega) rfl rfl (by omega) (hcl sc (d - 1) (by omega)) (fun r1 M1 h1 => ?_)
  refine fr_aload_n (pc := 756) dL_law_756 rfl rfl ?_
  refine fr_inVI (a := 142) (as := []) (rest := [(0, r1)]) (ls' := [(2, 142), (9, 0), (9, 0)]) (c1 := 0) (c2 := 153 * n) (pc := 757) dL_law_757 pl_13_89 rfl ⟨Nat.le_of_ble_eq_true rfl, Nat.le_of_ble_eq_true rfl⟩ rfl rfl rfl s0_142 (Nat.le_of_ble_eq_true rfl) (by omega) rfl rfl (by omega) (h1 sc (d - 1) (by omega)) (fun r2 M2 h2 => ?_)
  obtain ⟨eq, iv⟩ := h2
  subst eq
  refine fr_icmT (tg := 993) (pc := 760) dL_law_760 (decide_eq_true rfl) rfl ?_
  exact nxt M2 z5 z6 hz5 hz6 iv
theorem law_best {sc : Nat × (Nat → Int)} {d n : Nat} {i : Int} {z5 z6 : pm_V} {M : pm_M} {Q : Option pm_V → pm_M → Prop} (hd : 900 ≤ d) (hz5 : z5.1 ≠ 1) (hz6 : z6.1 ≠ 1) (hi : 0 ≤ i ∧ i + 6 ≤ (sc.1 : Int) ∧ sc.1 ≤ 3072) (h32 : ∀ j, sc.2 j < 2147483648) (h : INV M) (nxt : ∀ (M2 : pm_M) (z5 z6 : pm_V), z5.1 ≠ 1 → z6.1 ≠ 1 → INV M2 → pm_Fr sc d (153 * n) mL_law 993 [(4, 0), (2, 0), (2, 142), (2, 177), (0, i), z5, z6] [] M2 Q) : pm_Fr sc d (153 * n + 153) mL_law 765 [(4, 0), (2, 0), (2, 142), (2, 177), (0, i), z5, z6] [] M Q := by
  have hcl := lp_same (k := k11_best) (k' := k12_best) (fun P T nT hW hK hI hn => op_best hW hI) (K := fun r1 r2 M2 => r1 = r2 ∧ INV M2) h (fun a M2 h2 => ⟨rfl, h2⟩)
  refine fr_aload_n (pc := 765) dL_law_765 rfl rfl ?_
  refine fr_inVI (a := 0) (as := []) (rest := []) (ls' := [(2, 0)]) (c1 := 0) (c2 := 153 * n + 153) (pc := 766) dL_law_766 pl_13_90 rfl ⟨Nat.le_of_ble_eq_true rfl, Nat.le_of_ble_eq_true rfl⟩ rfl rfl rfl s0_0 (Nat.le_of_ble_eq_true rfl) (by omega) rfl rfl (by omega) (hcl sc (d - 1) (by omega)) (fun r1 M1 h1 => ?_)
  refine fr_aload_n (pc := 769) dL_law_769 rfl rfl ?_
  refine fr_inVI (a := 142) (as := []) (rest := [(0, r1)]) (ls' := [(2, 142), (9, 0), (9, 0)]) (c1 := 0) (c2 := 153 * n) (pc := 770) dL_law_770 pl_13_93 rfl ⟨Nat.le_of_ble_eq_true rfl, Nat.le_of_ble_eq_true rfl⟩ rfl rfl rfl s0_142 (Nat.le_of_ble_eq_true rfl) (by omega) rfl rfl (by omega) (h1 sc (d - 1) (by omega)) (fun r2 M2 h2 => ?_)
  obtain ⟨eq, iv⟩ := h2
  subst eq
  refine fr_icmT (tg := 993) (pc := 773) dL_law_773 (decide_eq_true rfl) rfl ?_
  exact nxt M2 z5 z6 hz5 hz6 iv
theorem law_pair {sc : Nat × (Nat → Int)} {d n : Nat} {i : Int} {z5 z6 : pm_V} {M : pm_M} {Q : Option pm_V → pm_M → Prop} (hd : 900 ≤ d) (hz5 : z5.1 ≠ 1) (hz6 : z6.1 ≠ 1) (hi : 0 ≤ i ∧ i + 6 ≤ (sc.1 : Int) ∧ sc.1 ≤ 3072) (h32 : ∀ j, sc.2 j < 2147483648) (h : INV M) (nxt : ∀ (M2 : pm_M) (z5 z6 : pm_V), z5.1 ≠ 1 → z6.1 ≠ 1 → INV M2 → pm_Fr sc d (153 * n) mL_law 993 [(4, 0), (2, 0), (2, 142), (2, 177), (0, i), z5, z6] [] M2 Q) : pm_Fr sc d (153 * n + 153) mL_law 778 [(4, 0), (2, 0), (2, 142), (2, 177), (0, i), z5, z6] [] M Q := by
  have hcl := lp_same (k := k11_pair (sc.2 (i + 1).toNat)) (k' := k12_pair (sc.2 (i + 1).toNat)) (fun P T nT hW hK hI hn => op_pair hW hI _) (K := fun r1 r2 M2 => r1 = r2 ∧ INV M2) h (fun a M2 h2 => ⟨rfl, h2⟩)
  refine fr_aload_n (pc := 778) dL_law_778 rfl rfl ?_
  refine la_arg (p := 779) (j := 1) dL_law_779 dL_law_780 dL_law_782 dL_law_783 dL_law_784 (by decide) hi ?_
  refine fr_inVI (a := 0) (as := [(0, (sc.2 (i + 1).toNat))]) (rest := []) (ls' := [(2, 0), (0, (sc.2 (i + 1).toNat))]) (c1 := 0) (c2 := 153 * n + 153) (pc := 785) dL_law_785 pl_13_94 rfl ⟨Nat.le_of_ble_eq_true rfl, Nat.le_of_ble_eq_true rfl⟩ rfl rfl rfl s0_0 (Nat.le_of_ble_eq_true rfl) (by omega) rfl rfl (by omega) (hcl sc (d - 1) (by omega)) (fun r1 M1 h1 => ?_)
  refine fr_aload_n (pc := 788) dL_law_788 rfl rfl ?_
  refine la_arg (p := 789) (j := 1) dL_law_789 dL_law_790 dL_law_792 dL_law_793 dL_law_794 (by decide) hi ?_
  refine fr_inVI (a := 142) (as := [(0, (sc.2 (i + 1).toNat))]) (rest := [(0, r1)]) (ls' := [(2, 142), (0, (sc.2 (i + 1).toNat))]) (c1 := 0) (c2 := 153 * n) (pc := 795) dL_law_795 pl_13_97 rfl ⟨Nat.le_of_ble_eq_true rfl, Nat.le_of_ble_eq_true rfl⟩ rfl rfl rfl s0_142 (Nat.le_of_ble_eq_true rfl) (by omega) rfl rfl (by omega) (h1 sc (d - 1) (by omega)) (fun r2 M2 h2 => ?_)
  obtain ⟨eq, iv⟩ := h2
  subst eq
  refine fr_icmT (tg := 993) (pc := 798) dL_law_798 (decide_eq_true rfl) rfl ?_
  exact nxt M2 z5 z6 hz5 hz6 iv
theorem law_values {sc : Nat × (Nat → Int)} {d n : Nat} {i : Int} {z5 z6 : pm_V} {M : pm_M} {Q : Option pm_V → pm_M → Prop} (hd : 900 ≤ d) (hz5 : z5.1 ≠ 1) (hz6 : z6.1 ≠ 1) (hi : 0 ≤ i ∧ i + 6 ≤ (sc.1 : Int) ∧ sc.1 ≤ 3072) (h32 : ∀ j, sc.2 j < 2147483648) (h : INV M) (nxt : ∀ (M2 : pm_M) (z5 z6 : pm_V), z5.1 ≠ 1 → z6.1 ≠ 1 → INV M2 → pm_Fr sc d (153 * n) mL_law 993 [(4, 0), (2, 0), (2, 142), (2, 177), (0, i), z5, z6] [] M2 Q) : pm_Fr sc d (153 * n + 153) mL_law 803 [(4, 0), (2, 0), (2, 142), (2, 177), (0, i), z5, z6] [] M Q := by
  have hcl := lp_same (k := k11_values (sc.2 (i + 1).toNat) (sc.2 (i + 2).toNat)) (k' := k12_values (sc.2 (i + 1).toNat) (sc.2 (i + 2).toNat)) (fun P T nT hW hK hI hn => op_values hW _ _) (K := fun r1 r2 M2 => r1 = r2 ∧ INV M2) h (fun a M2 h2 => ⟨rfl, h2⟩)
  refine fr_aload_n (pc := 803) dL_law_803 rfl rfl ?_
  refine la_arg (p := 804) (j := 1) dL_law_804 dL_law_805 dL_law_807 dL_law_808 dL_law_809 (by decide) hi ?_
  refine la_arg (p := 810) (j := 2) dL_law_810 dL_law_811 dL_law_813 dL_law_814 dL_law_815 (by decide) hi ?_
  refine fr_inVI (a := 0) (as := [(0, (sc.2 (i + 1).toNat)), (0, (sc.2 (i + 2).toNat))]) (rest := []) (ls' := [(2, 0), (0, (sc.2 (i + 1).toNat)), (0, (sc.2 (i + 2).toNat))]) (c1 := 0) (c2 := 153 * n + 153) (pc := 816) dL_law_816 pl_13_98 rfl ⟨Nat.le_of_ble_eq_true rfl, Nat.le_of_ble_eq_true rfl⟩ rfl rfl rfl s0_0 (Nat.le_of_ble_eq_true rfl) (by omega) rfl rfl (by omega) (hcl sc (d - 1) (by omega)) (fun r1 M1 h1 => ?_)
  refine fr_aload_n (pc := 819) dL_law_819 rfl rfl ?_
  refine la_arg (p := 820) (j := 1) dL_law_820 dL_law_821 dL_law_823 dL_law_824 dL_law_825 (by decide) hi ?_
  refine la_arg (p := 826) (j := 2) dL_law_826 dL_law_827 dL_law_829 dL_law_830 dL_law_831 (by decide) hi ?_
  refine fr_inVI (a := 142) (as := [(0, (sc.2 (i + 1).toNat)), (0, (sc.2 (i + 2).toNat))]) (rest := [(0, r1)]) (ls' := [(2, 142), (0, (sc.2 (i + 1).toNat)), (0, (sc.2 (i + 2).toNat)), (9, 0), (9, 0), (9, 0), (9, 0), (9, 0), (9, 0), (9, 0)]) (c1 := 0) (c2 := 153 * n) (pc := 832) dL_law_832 pl_13_101 rfl ⟨Nat.le_of_ble_eq_true rfl, Nat.le_of_ble_eq_true rfl⟩ rfl rfl rfl s0_142 (Nat.le_of_ble_eq_true rfl) (by omega) rfl rfl (by omega) (h1 sc (d - 1) (by omega)) (fun r2 M2 h2 => ?_)
  obtain ⟨eq, iv⟩ := h2
  subst eq
  refine fr_icmT (tg := 993) (pc := 835) dL_law_835 (decide_eq_true rfl) rfl ?_
  exact nxt M2 z5 z6 hz5 hz6 iv
theorem law_forced {sc : Nat × (Nat → Int)} {d n : Nat} {i : Int} {z5 z6 : pm_V} {M : pm_M} {Q : Option pm_V → pm_M → Prop} (hd : 900 ≤ d) (hz5 : z5.1 ≠ 1) (hz6 : z6.1 ≠ 1) (hi : 0 ≤ i ∧ i + 6 ≤ (sc.1 : Int) ∧ sc.1 ≤ 3072) (h32 : ∀ j, sc.2 j < 2147483648) (h : INV M) (nxt : ∀ (M2 : pm_M) (z5 z6 : pm_V), z5.1 ≠ 1 → z6.1 ≠ 1 → INV M2 → pm_Fr sc d (153 * n) mL_law 993 [(4, 0), (2, 0), (2, 142), (2, 177), (0, i), z5, z6] [] M2 Q) : pm_Fr sc d (153 * n + 153) mL_law 840 [(4, 0), (2, 0), (2, 142), (2, 177), (0, i), z5, z6] [] M Q := by
  have hcl := fun (so : Int) (hso : so = 0 ∨ so = 1) => lp_same (k := k11_forced (sc.2 (i + 1).toNat) so) (k' := k12_forced (sc.2 (i + 1).toNat) so) (fun P T nT hW hK hI hn => op_forced hW _ _ hso) (K := fun r1 r2 M2 => r1 = r2 ∧ INV M2) h (fun a M2 h2 => ⟨rfl, h2⟩)
  refine fr_aload_n (pc := 840) dL_law_840 rfl rfl ?_
  by_cases hz : (sc.2 (i + 2).toNat) = 0
  · refine la_arg (p := 841) (j := 1) dL_law_841 dL_law_842 dL_law_844 dL_law_845 dL_law_846 (by decide) hi ?_
    refine la_arg (p := 847) (j := 2) dL_law_847 dL_law_848 dL_law_850 dL_law_851 dL_law_852 (by decide) hi ?_
    refine fr_ifcT (tg := 860) (pc := 853) dL_law_853 (decide_eq_true hz) rfl ?_
    refine fr_iconst (pc := 860) dL_law_860 (by decide) ?_
    refine fr_inVI (a := 0) (as := [(0, (sc.2 (i + 1).toNat)), (0, 0)]) (rest := []) (ls' := [(2, 0), (0, (sc.2 (i + 1).toNat)), (0, 0)]) (c1 := 0) (c2 := 153 * n) (pc := 861) dL_law_861 pl_13_102 rfl ⟨Nat.le_of_ble_eq_true rfl, Nat.le_of_ble_eq_true rfl⟩ rfl rfl rfl s0_0 (Nat.le_of_ble_eq_true rfl) (by omega) rfl rfl (by omega) (hcl 0 (by decide) sc (d - 1) (by omega)) (fun r1 M1 h1 => ?_)
    refine fr_aload_n (pc := 864) dL_law_864 rfl rfl ?_
    refine la_arg (p := 865) (j := 1) dL_law_865 dL_law_866 dL_law_868 dL_law_869 dL_law_870 (by decide) hi ?_
    refine la_arg (p := 871) (j := 2) dL_law_871 dL_law_872 dL_law_874 dL_law_875 dL_law_876 (by decide) hi ?_
    refine fr_ifcT (tg := 884) (pc := 877) dL_law_877 (decide_eq_true hz) rfl ?_
    refine fr_iconst (pc := 884) dL_law_884 (by decide) ?_
    refine fr_inVI (a := 142) (as := [(0, (sc.2 (i + 1).toNat)), (0, 0)]) (rest := [(0, r1)]) (ls' := [(2, 142), (0, (sc.2 (i + 1).toNat)), (0, 0), (9, 0)]) (c1 := 0) (c2 := 153 * n) (pc := 885) dL_law_885 pl_13_106 rfl ⟨Nat.le_of_ble_eq_true rfl, Nat.le_of_ble_eq_true rfl⟩ rfl rfl rfl s0_142 (Nat.le_of_ble_eq_true rfl) (by omega) rfl rfl (pm_zc _) (h1 sc (d - 1) (by omega)) (fun r2 M2 h2 => ?_)
    obtain ⟨eq, iv⟩ := h2
    subst eq
    refine fr_icmT (tg := 993) (pc := 888) dL_law_888 (decide_eq_true rfl) rfl ?_
    exact nxt M2 z5 z6 hz5 hz6 iv
  · refine la_arg (p := 841) (j := 1) dL_law_841 dL_law_842 dL_law_844 dL_law_845 dL_law_846 (by decide) hi ?_
    refine la_arg (p := 847) (j := 2) dL_law_847 dL_law_848 dL_law_850 dL_law_851 dL_law_852 (by decide) hi ?_
    refine fr_ifcF (tg := 860) (pc := 853) dL_law_853 (decide_eq_false hz) rfl ?_
    refine fr_iconst (pc := 856) dL_law_856 (by decide) ?_
    refine fr_goto (tg := 861) (pc := 857) dL_law_857 rfl ?_
    refine fr_inVI (a := 0) (as := [(0, (sc.2 (i + 1).toNat)), (0, 1)]) (rest := []) (ls' := [(2, 0), (0, (sc.2 (i + 1).toNat)), (0, 1)]) (c1 := 0) (c2 := 153 * n) (pc := 861) dL_law_861 pl_13_102 rfl ⟨Nat.le_of_ble_eq_true rfl, Nat.le_of_ble_eq_true rfl⟩ rfl rfl rfl s0_0 (Nat.le_of_ble_eq_true rfl) (by omega) rfl rfl (by omega) (hcl 1 (by decide) sc (d - 1) (by omega)) (fun r1 M1 h1 => ?_)
    refine fr_aload_n (pc := 864) dL_law_864 rfl rfl ?_
    refine la_arg (p := 865) (j := 1) dL_law_865 dL_law_866 dL_law_868 dL_law_869 dL_law_870 (by decide) hi ?_
    refine la_arg (p := 871) (j := 2) dL_law_871 dL_law_872 dL_law_874 dL_law_875 dL_law_876 (by decide) hi ?_
    refine fr_ifcF (tg := 884) (pc := 877) dL_law_877 (decide_eq_false hz) rfl ?_
    refine fr_iconst (pc := 880) dL_law_880 (by decide) ?_
    refine fr_goto (tg := 885) (pc := 881) dL_law_881 rfl ?_
    refine fr_inVI (a := 142) (as := [(0, (sc.2 (i + 1).toNat)), (0, 1)]) (rest := [(0, r1)]) (ls' := [(2, 142), (0, (sc.2 (i + 1).toNat)), (0, 1), (9, 0)]) (c1 := 0) (c2 := 153 * n) (pc := 885) dL_law_885 pl_13_106 rfl ⟨Nat.le_of_ble_eq_true rfl, Nat.le_of_ble_eq_true rfl⟩ rfl rfl rfl s0_142 (Nat.le_of_ble_eq_true rfl) (by omega) rfl rfl (pm_zc _) (h1 sc (d - 1) (by omega)) (fun r2 M2 h2 => ?_)
    obtain ⟨eq, iv⟩ := h2
    subst eq
    refine fr_icmT (tg := 993) (pc := 888) dL_law_888 (decide_eq_true rfl) rfl ?_
    exact nxt M2 z5 z6 hz5 hz6 iv
theorem law_flip {sc : Nat × (Nat → Int)} {d n : Nat} {i : Int} {z5 z6 : pm_V} {M : pm_M} {Q : Option pm_V → pm_M → Prop} (hd : 900 ≤ d) (hz5 : z5.1 ≠ 1) (hz6 : z6.1 ≠ 1) (hi : 0 ≤ i ∧ i + 6 ≤ (sc.1 : Int) ∧ sc.1 ≤ 3072) (h32 : ∀ j, sc.2 j < 2147483648) (h : INV M) (nxt : ∀ (M2 : pm_M) (z5 z6 : pm_V), z5.1 ≠ 1 → z6.1 ≠ 1 → INV M2 → pm_Fr sc d (153 * n) mL_law 993 [(4, 0), (2, 0), (2, 142), (2, 177), (0, i), z5, z6] [] M2 Q) : pm_Fr sc d (153 * n + 153) mL_law 893 [(4, 0), (2, 0), (2, 142), (2, 177), (0, i), z5, z6] [] M Q := by
  have hcl := lp_same (k := k11_flip (sc.2 (i + 1).toNat)) (k' := k12_flip (sc.2 (i + 1).toNat)) (fun P T nT hW hK hI hn => op_flip hW hn _) (K := fun r1 r2 M2 => r1 = r2 ∧ INV M2) h (fun a M2 h2 => ⟨rfl, h2⟩)
  refine fr_aload_n (pc := 893) dL_law_893 rfl rfl ?_
  refine la_arg (p := 894) (j := 1) dL_law_894 dL_law_895 dL_law_897 dL_law_898 dL_law_899 (by decide) hi ?_
  refine fr_inVI (a := 0) (as := [(0, (sc.2 (i + 1).toNat))]) (rest := []) (ls' := [(2, 0), (0, (sc.2 (i + 1).toNat))]) (c1 := 0) (c2 := 153 * n + 153) (pc := 900) dL_law_900 pl_13_107 rfl ⟨Nat.le_of_ble_eq_true rfl, Nat.le_of_ble_eq_true rfl⟩ rfl rfl rfl s0_0 (Nat.le_of_ble_eq_true rfl) (by omega) rfl rfl (by omega) (hcl sc (d - 1) (by omega)) (fun r1 M1 h1 => ?_)
  refine fr_aload_n (pc := 903) dL_law_903 rfl rfl ?_
  refine la_arg (p := 904) (j := 1) dL_law_904 dL_law_905 dL_law_907 dL_law_908 dL_law_909 (by decide) hi ?_
  refine fr_inVI (a := 142) (as := [(0, (sc.2 (i + 1).toNat))]) (rest := [(0, r1)]) (ls' := [(2, 142), (0, (sc.2 (i + 1).toNat)), (9, 0), (9, 0), (9, 0)]) (c1 := 0) (c2 := 153 * n) (pc := 910) dL_law_910 pl_13_110 rfl ⟨Nat.le_of_ble_eq_true rfl, Nat.le_of_ble_eq_true rfl⟩ rfl rfl rfl s0_142 (Nat.le_of_ble_eq_true rfl) (by omega) rfl rfl (by omega) (h1 sc (d - 1) (by omega)) (fun r2 M2 h2 => ?_)
  obtain ⟨eq, iv⟩ := h2
  subst eq
  refine fr_icmT (tg := 993) (pc := 913) dL_law_913 (decide_eq_true rfl) rfl ?_
  exact nxt M2 z5 z6 hz5 hz6 iv
theorem law_take {sc : Nat × (Nat → Int)} {d n : Nat} {i : Int} {z5 z6 : pm_V} {M : pm_M} {Q : Option pm_V → pm_M → Prop} (hd : 900 ≤ d) (hz5 : z5.1 ≠ 1) (hz6 : z6.1 ≠ 1) (hi : 0 ≤ i ∧ i + 6 ≤ (sc.1 : Int) ∧ sc.1 ≤ 3072) (h32 : ∀ j, sc.2 j < 2147483648) (h : INV M) (nxt : ∀ (M2 : pm_M) (z5 z6 : pm_V), z5.1 ≠ 1 → z6.1 ≠ 1 → INV M2 → pm_Fr sc d (153 * n) mL_law 993 [(4, 0), (2, 0), (2, 142), (2, 177), (0, i), z5, z6] [] M2 Q) : pm_Fr sc d (153 * n + 153) mL_law 918 [(4, 0), (2, 0), (2, 142), (2, 177), (0, i), z5, z6] [] M Q := by
  have hcl := lp_sameP (k := k11_take (sc.2 (i + 1).toNat) (sc.2 (i + 2).toNat)) (k' := k12_take (sc.2 (i + 1).toNat) (sc.2 (i + 2).toNat)) (fun P T nT hW hK => op_take hW hK _ _ (h32 _)) (K := fun r1 r2 M2 => r1 = r2 ∧ INV M2) h (fun a M2 h2 => ⟨rfl, h2⟩)
  refine fr_aload_n (pc := 918) dL_law_918 rfl rfl ?_
  refine la_arg (p := 919) (j := 1) dL_law_919 dL_law_920 dL_law_922 dL_law_923 dL_law_924 (by decide) hi ?_
  refine la_arg (p := 925) (j := 2) dL_law_925 dL_law_926 dL_law_928 dL_law_929 dL_law_930 (by decide) hi ?_
  refine fr_inVI (a := 0) (as := [(0, (sc.2 (i + 1).toNat)), (0, (sc.2 (i + 2).toNat))]) (rest := []) (ls' := [(2, 0), (0, (sc.2 (i + 1).toNat)), (0, (sc.2 (i + 2).toNat))]) (c1 := 0) (c2 := 153 * n + 153) (pc := 931) dL_law_931 pl_13_111 rfl ⟨Nat.le_of_ble_eq_true rfl, Nat.le_of_ble_eq_true rfl⟩ rfl rfl rfl s0_0 (Nat.le_of_ble_eq_true rfl) (by omega) rfl rfl (by omega) (hcl sc (d - 1) (by omega)) (fun r1 M1 h1 => ?_)
  refine fr_aload_n (pc := 934) dL_law_934 rfl rfl ?_
  refine la_arg (p := 935) (j := 1) dL_law_935 dL_law_936 dL_law_938 dL_law_939 dL_law_940 (by decide) hi ?_
  refine la_arg (p := 941) (j := 2) dL_law_941 dL_law_942 dL_law_944 dL_law_945 dL_law_946 (by decide) hi ?_
  refine fr_inVI (a := 142) (as := [(0, (sc.2 (i + 1).toNat)), (0, (sc.2 (i + 2).toNat))]) (rest := [(0, r1)]) (ls' := [(2, 142), (0, (sc.2 (i + 1).toNat)), (0, (sc.2 (i + 2).toNat))]) (c1 := 0) (c2 := 153 * n) (pc := 947) dL_law_947 pl_13_114 rfl ⟨Nat.le_of_ble_eq_true rfl, Nat.le_of_ble_eq_true rfl⟩ rfl rfl rfl s0_142 (Nat.le_of_ble_eq_true rfl) (by omega) rfl rfl (by omega) (h1 sc (d - 1) (by omega)) (fun r2 M2 h2 => ?_)
  obtain ⟨eq, iv⟩ := h2
  subst eq
  refine fr_icmT (tg := 993) (pc := 950) dL_law_950 (decide_eq_true rfl) rfl ?_
  exact nxt M2 z5 z6 hz5 hz6 iv
theorem law_undo {sc : Nat × (Nat → Int)} {d n : Nat} {i : Int} {z5 z6 : pm_V} {M : pm_M} {Q : Option pm_V → pm_M → Prop} (hd : 900 ≤ d) (hz5 : z5.1 ≠ 1) (hz6 : z6.1 ≠ 1) (hi : 0 ≤ i ∧ i + 6 ≤ (sc.1 : Int) ∧ sc.1 ≤ 3072) (h32 : ∀ j, sc.2 j < 2147483648) (h : INV M) (nxt : ∀ (M2 : pm_M) (z5 z6 : pm_V), z5.1 ≠ 1 → z6.1 ≠ 1 → INV M2 → pm_Fr sc d (153 * n) mL_law 993 [(4, 0), (2, 0), (2, 142), (2, 177), (0, i), z5, z6] [] M2 Q) : pm_Fr sc d (153 * n + 153) mL_law 955 [(4, 0), (2, 0), (2, 142), (2, 177), (0, i), z5, z6] [] M Q := by
  have hcl := lp_sameP (k := k11_undo) (k' := k12_undo) (fun P T nT hW hK => op_undo hW hK) (K := fun r1 r2 M2 => r1 = r2 ∧ INV M2) h (fun a M2 h2 => ⟨rfl, h2⟩)
  refine fr_aload_n (pc := 955) dL_law_955 rfl rfl ?_
  refine fr_inVI (a := 0) (as := []) (rest := []) (ls' := [(2, 0)]) (c1 := 0) (c2 := 153 * n + 153) (pc := 956) dL_law_956 pl_13_115 rfl ⟨Nat.le_of_ble_eq_true rfl, Nat.le_of_ble_eq_true rfl⟩ rfl rfl rfl s0_0 (Nat.le_of_ble_eq_true rfl) (by omega) rfl rfl (by omega) (hcl sc (d - 1) (by omega)) (fun r1 M1 h1 => ?_)
  refine fr_aload_n (pc := 959) dL_law_959 rfl rfl ?_
  refine fr_inVI (a := 142) (as := []) (rest := [(0, r1)]) (ls' := [(2, 142)]) (c1 := 0) (c2 := 153 * n) (pc := 960) dL_law_960 pl_13_118 rfl ⟨Nat.le_of_ble_eq_true rfl, Nat.le_of_ble_eq_true rfl⟩ rfl rfl rfl s0_142 (Nat.le_of_ble_eq_true rfl) (by omega) rfl rfl (by omega) (h1 sc (d - 1) (by omega)) (fun r2 M2 h2 => ?_)
  obtain ⟨eq, iv⟩ := h2
  subst eq
  refine fr_icmT (tg := 993) (pc := 963) dL_law_963 (decide_eq_true rfl) rfl ?_
  exact nxt M2 z5 z6 hz5 hz6 iv
theorem law_count {sc : Nat × (Nat → Int)} {d n : Nat} {i : Int} {z5 z6 : pm_V} {M : pm_M} {Q : Option pm_V → pm_M → Prop} (hd : 900 ≤ d) (hz5 : z5.1 ≠ 1) (hz6 : z6.1 ≠ 1) (hi : 0 ≤ i ∧ i + 6 ≤ (sc.1 : Int) ∧ sc.1 ≤ 3072) (h32 : ∀ j, sc.2 j < 2147483648) (h : INV M) (nxt : ∀ (M2 : pm_M) (z5 z6 : pm_V), z5.1 ≠ 1 → z6.1 ≠ 1 → INV M2 → pm_Fr sc d (153 * n) mL_law 993 [(4, 0), (2, 0), (2, 142), (2, 177), (0, i), z5, z6] [] M2 Q) : pm_Fr sc d (153 * n + 153) mL_law 968 [(4, 0), (2, 0), (2, 142), (2, 177), (0, i), z5, z6] [] M Q := by
  have hcl := lp_count (w := (sc.2 (i + 1).toNat)) (K := fun r1 r2 M2 => r1 = r2 ∧ INV M2) h (fun a M2 h2 => ⟨rfl, h2⟩)
  refine fr_aload_n (pc := 968) dL_law_968 rfl rfl ?_
  refine la_arg (p := 969) (j := 1) dL_law_969 dL_law_970 dL_law_972 dL_law_973 dL_law_974 (by decide) hi ?_
  refine fr_inVI (a := 0) (as := [(0, (sc.2 (i + 1).toNat))]) (rest := []) (ls' := [(2, 0), (0, (sc.2 (i + 1).toNat))]) (c1 := 0) (c2 := 153 * n + 153) (pc := 975) dL_law_975 pl_13_119 rfl ⟨Nat.le_of_ble_eq_true rfl, Nat.le_of_ble_eq_true rfl⟩ rfl rfl rfl s0_0 (Nat.le_of_ble_eq_true rfl) (by omega) rfl rfl (by omega) (hcl sc (d - 1) (by omega)) (fun r1 M1 h1 => ?_)
  refine fr_aload_n (pc := 978) dL_law_978 rfl rfl ?_
  refine la_arg (p := 979) (j := 1) dL_law_979 dL_law_980 dL_law_982 dL_law_983 dL_law_984 (by decide) hi ?_
  refine fr_inVI (a := 142) (as := [(0, (sc.2 (i + 1).toNat))]) (rest := [(0, r1)]) (ls' := [(2, 142), (0, (sc.2 (i + 1).toNat))]) (c1 := 0) (c2 := 153 * n) (pc := 985) dL_law_985 pl_13_122 rfl ⟨Nat.le_of_ble_eq_true rfl, Nat.le_of_ble_eq_true rfl⟩ rfl rfl rfl s0_142 (Nat.le_of_ble_eq_true rfl) (by omega) rfl rfl (by omega) (h1 sc (d - 1) (by omega)) (fun r2 M2 h2 => ?_)
  obtain ⟨eq, iv⟩ := h2
  subst eq
  refine fr_icmT (tg := 993) (pc := 988) dL_law_988 (decide_eq_true rfl) rfl ?_
  exact nxt M2 z5 z6 hz5 hz6 iv
theorem law_step {sc : Nat × (Nat → Int)} {d n : Nat} {i : Int} {z5 z6 : pm_V} {M : pm_M} {Q : Option pm_V → pm_M → Prop} (hd : 900 ≤ d) (hz5 : z5.1 ≠ 1) (hz6 : z6.1 ≠ 1) (hi : 0 ≤ i ∧ i + 6 ≤ (sc.1 : Int) ∧ sc.1 ≤ 3072) (h32 : ∀ j, sc.2 j < 2147483648) (h : INV M) (nxt : ∀ (M2 : pm_M) (z5 z6 : pm_V), z5.1 ≠ 1 → z6.1 ≠ 1 → INV M2 → pm_Fr sc d (153 * n) mL_law 993 [(4, 0), (2, 0), (2, 142), (2, 177), (0, i), z5, z6] [] M2 Q) (hx : i ≤ (sc.1 : Int) - 6) : pm_Fr sc d (153 * n + 153) mL_law 33 [(4, 0), (2, 0), (2, 142), (2, 177), (0, i), z5, z6] [] M Q := by
  refine fr_aload_n (pc := 33) dL_law_33 rfl rfl ?_
  refine fr_iload (pc := 34) dL_law_34 rfl rfl ?_
  refine fr_sald (pc := 36) dL_law_36 ⟨by omega, by omega⟩ ?_
  refine fr_bipush (pc := 37) dL_law_37 (by decide) ?_
  refine fr_iand (pc := 39) dL_law_39 rfl ?_
  generalize pm_iand (sc.2 i.toNat) 31 = op
  by_cases h0 : op = 0
  · refine fr_tabV (v := 0) (tg := 148) (pc := 40) dL_law_40 h0 (by decide) rfl rfl ?_
    exact law_feed hd hz5 hz6 hi h32 h nxt
  by_cases h1 : op = 1
  · refine fr_tabV (v := 1) (tg := 221) (pc := 40) dL_law_40 h1 (by decide) rfl rfl ?_
    exact law_program hd hz5 hz6 hi h32 h nxt
  by_cases h2 : op = 2
  · refine fr_tabV (v := 2) (tg := 246) (pc := 40) dL_law_40 h2 (by decide) rfl rfl ?_
    exact law_tests hd hz5 hz6 hi h32 h nxt
  by_cases h3 : op = 3
  · refine fr_tabV (v := 3) (tg := 271) (pc := 40) dL_law_40 h3 (by decide) rfl rfl ?_
    exact law_node hd hz5 hz6 hi h32 h nxt
  by_cases h4 : op = 4
  · refine fr_tabV (v := 4) (tg := 339) (pc := 40) dL_law_40 h4 (by decide) rfl rfl ?_
    exact law_test hd hz5 hz6 hi h32 h nxt
  by_cases h5 : op = 5
  · refine fr_tabV (v := 5) (tg := 407) (pc := 40) dL_law_40 h5 (by decide) rfl rfl ?_
    exact law_run hd hz5 hz6 hi h32 h nxt
  by_cases h6 : op = 6
  · refine fr_tabV (v := 6) (tg := 444) (pc := 40) dL_law_40 h6 (by decide) rfl rfl ?_
    exact law_done hd hz5 hz6 hi h32 h nxt
  by_cases h7 : op = 7
  · refine fr_tabV (v := 7) (tg := 481) (pc := 40) dL_law_40 h7 (by decide) rfl rfl ?_
    exact law_trace hd hz5 hz6 hi h32 h nxt
  by_cases h8 : op = 8
  · refine fr_tabV (v := 8) (tg := 518) (pc := 40) dL_law_40 h8 (by decide) rfl rfl ?_
    exact law_spectrum hd hz5 hz6 hi h32 h nxt
  by_cases h9 : op = 9
  · refine fr_tabV (v := 9) (tg := 555) (pc := 40) dL_law_40 h9 (by decide) rfl rfl ?_
    exact law_score hd hz5 hz6 hi h32 h nxt
  by_cases h10 : op = 10
  · refine fr_tabV (v := 10) (tg := 604) (pc := 40) dL_law_40 h10 (by decide) rfl rfl ?_
    exact law_suspect hd hz5 hz6 hi h32 h nxt
  by_cases h11 : op = 11
  · refine fr_tabV (v := 11) (tg := 641) (pc := 40) dL_law_40 h11 (by decide) rfl rfl ?_
    exact law_changes hd hz5 hz6 hi h32 h nxt
  by_cases h12 : op = 12
  · refine fr_tabV (v := 12) (tg := 666) (pc := 40) dL_law_40 h12 (by decide) rfl rfl ?_
    exact law_change hd hz5 hz6 hi h32 h nxt
  by_cases h13 : op = 13
  · refine fr_tabV (v := 13) (tg := 715) (pc := 40) dL_law_40 h13 (by decide) rfl rfl ?_
    exact law_mend hd hz5 hz6 hi h32 h nxt
  by_cases h14 : op = 14
  · refine fr_tabV (v := 14) (tg := 752) (pc := 40) dL_law_40 h14 (by decide) rfl rfl ?_
    exact law_unlike hd hz5 hz6 hi h32 h nxt
  by_cases h15 : op = 15
  · refine fr_tabV (v := 15) (tg := 765) (pc := 40) dL_law_40 h15 (by decide) rfl rfl ?_
    exact law_best hd hz5 hz6 hi h32 h nxt
  by_cases h16 : op = 16
  · refine fr_tabV (v := 16) (tg := 778) (pc := 40) dL_law_40 h16 (by decide) rfl rfl ?_
    exact law_pair hd hz5 hz6 hi h32 h nxt
  by_cases h17 : op = 17
  · refine fr_tabV (v := 17) (tg := 803) (pc := 40) dL_law_40 h17 (by decide) rfl rfl ?_
    exact law_values hd hz5 hz6 hi h32 h nxt
  by_cases h18 : op = 18
  · refine fr_tabV (v := 18) (tg := 840) (pc := 40) dL_law_40 h18 (by decide) rfl rfl ?_
    exact law_forced hd hz5 hz6 hi h32 h nxt
  by_cases h19 : op = 19
  · refine fr_tabV (v := 19) (tg := 893) (pc := 40) dL_law_40 h19 (by decide) rfl rfl ?_
    exact law_flip hd hz5 hz6 hi h32 h nxt
  by_cases h20 : op = 20
  · refine fr_tabV (v := 20) (tg := 918) (pc := 40) dL_law_40 h20 (by decide) rfl rfl ?_
    exact law_take hd hz5 hz6 hi h32 h nxt
  by_cases h21 : op = 21
  · refine fr_tabV (v := 21) (tg := 955) (pc := 40) dL_law_40 h21 (by decide) rfl rfl ?_
    exact law_undo hd hz5 hz6 hi h32 h nxt
  by_cases h22 : op = 22
  · refine fr_tabV (v := 22) (tg := 968) (pc := 40) dL_law_40 h22 (by decide) rfl rfl ?_
    exact law_count hd hz5 hz6 hi h32 h nxt
  refine fr_tableO (tg := 993) (pc := 40) dL_law_40 (by omega) rfl ?_
  exact (nxt M z5 z6 hz5 hz6 h).cost (by omega)
theorem law_loop {sc : Nat × (Nat → Int)} {d : Nat} (hd : 900 ≤ d) (hL : sc.1 ≤ 3072) (h32 : ∀ j, sc.2 j < 2147483648) : ∀ (n : Nat) (i : Int) (z5 z6 : pm_V) (M : pm_M), z5.1 ≠ 1 → z6.1 ≠ 1 → 0 ≤ i → (sc.1 : Int) - i < 6 * (n : Int) + 6 → i ≤ 3072 + 6 → INV M → pm_Fr sc d (153 * n) mL_law 23 [(4, 0), (2, 0), (2, 142), (2, 177), (0, i), z5, z6] [] M (qI (fun x _ => x = 1)) := by
  intro n
  have top : ∀ (c : Nat) (i : Int) (z5 z6 : pm_V) (M : pm_M), 0 ≤ i → i ≤ 3072 + 6 → ((i ≤ (sc.1 : Int) - 6) → pm_Fr sc d c mL_law 33 [(4, 0), (2, 0), (2, 142), (2, 177), (0, i), z5, z6] [] M (qI (fun x _ => x = 1))) → pm_Fr sc d c mL_law 23 [(4, 0), (2, 0), (2, 142), (2, 177), (0, i), z5, z6] [] M (qI (fun x _ => x = 1)) := by
    intro c i z5 z6 M i0 i1 k
    refine fr_iload (pc := 23) dL_law_23 rfl rfl ?_
    refine fr_aload_n (pc := 25) dL_law_25 rfl rfl ?_
    refine fr_slen (pc := 26) dL_law_26 (by omega) ?_
    refine fr_bipush (pc := 27) dL_law_27 (by decide) ?_
    refine fr_isub (z := (sc.1 : Int) - 6) (pc := 29) dL_law_29 (w32_id (by omega)) ?_
    by_cases hx : i ≤ (sc.1 : Int) - 6
    · refine fr_icmF (tg := 999) (pc := 30) dL_law_30 (decide_eq_false (by omega)) rfl ?_
      exact k hx
    · refine fr_icmT (tg := 999) (pc := 30) dL_law_30 (decide_eq_true (by omega)) rfl ?_
      refine fr_iconst (pc := 999) dL_law_999 (by decide) ?_
      exact fr_iret (pc := 1000) dL_law_1000 (Or.inr (Or.inl ⟨rfl, Or.inr rfl⟩)) rfl
  induction n with
  | zero =>
    intro i z5 z6 M hz5 hz6 i0 hn i1 h
    exact top _ i z5 z6 M i0 i1 (fun hx => by omega)
  | succ n ih =>
    intro i z5 z6 M hz5 hz6 i0 hn i1 h
    refine top _ i z5 z6 M i0 i1 (fun hx => ?_)
    rw [show 153 * (n + 1) = 153 * n + 153 by omega]
    refine law_step hd hz5 hz6 ⟨i0, by omega, hL⟩ h32 h (fun M2 y5 y6 hy5 hy6 h2 => ?_) hx
    refine fr_iinc (ls2 := [(4, 0), (2, 0), (2, 142), (2, 177), (0, i + 6), y5, y6]) (pc := 993) dL_law_993 (Nat.le_of_ble_eq_true rfl) rfl (w32_id (by omega)) rfl ?_
    refine fr_goto (tg := 23) (pc := 996) dL_law_996 rfl ?_
    exact ih (i + 6) y5 y6 M2 hy5 hy6 (by omega) (by omega) (by omega) h2

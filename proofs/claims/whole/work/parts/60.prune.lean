-- needs 30 31 32 33a 33b 33c 33d 33e 33f 33g 33h 33i 33j 40 41 42 43 44 45 46 50 51 52 53 54 56
/-! a run that does not come to a statement stays as it is; how a run ends, as one number -/
theorem evx_pc {P P' : Pg} {vr : Int → Int} (h3 : P' 3 = P 3) (h8 : P' 8 = P 8) : ∀ {f : Nat} {n e : Int}, Ex P f n e → (∀ m, n ≤ m → m ≤ e → P' 4 m = P 4 m ∧ P' 5 m = P 5 m) → ∀ g, evx P' vr g n = evx P vr g n := by
  intro f
  induction f with
  | zero => intro n e h; exact h.elim
  | succ f ih =>
    intro n e h hm g
    cases g with
    | zero => rfl
    | succ g =>
      have hle := h.le
      obtain ⟨m4, m5⟩ := hm n (Int.le_refl _) hle
      unfold evx cmb
      rw [h3, h8, m4, m5]
      rcases h with ⟨h0, h⟩ | ⟨h0, h⟩ | ⟨h0, h⟩ | ⟨h0, ha, hb⟩
      · rw [if_pos h0, if_pos h0]
      · simp [h0]
      · simp [h0, ih h (fun m m1 m2 => hm m (by omega) m2) g]
      · have := ha.le
        have := hb.le
        rw [ih ha (fun m m1 m2 => hm m (by omega) (by omega)) g, ih hb (fun m m1 m2 => hm m (by omega) m2) g]
theorem flat_rc {P : Pg} {F : Fo} : ∀ (n : Nat) (s x : Int) (σ : Sg), x ∈ σ.2.2.2.2.2 → x ∈ (flat P F n s σ).2.2.2.2.2.2 := by
  intro n
  induction n with
  | zero => intro s x σ h; exact h
  | succ n ih =>
    intro s x σ h
    rw [flat_succ]
    by_cases hs : 0 ≤ s ∧ s < P 2 15 ∧ P 3 s ≤ 3
    · rw [if_pos hs]
      by_cases h5 : P 5 s = 1
      · rw [if_pos h5]; exact ih _ _ _ h
      · rw [if_neg h5]; exact ih _ _ _ (by rw [fstep_rc]; exact List.mem_cons_of_mem _ h)
    · rw [if_neg hs]; exact h
def Dif (s : Int) (P P' : Pg) : Prop := (∀ a, a ≠ 4 → a ≠ 5 → P' a = P a) ∧ ∀ m, 0 ≤ m → m < P 2 15 → P 7 m ≠ s → P' 4 m = P 4 m ∧ P' 5 m = P 5 m
theorem Dif.set {P : Pg} {n v m : Int} (hn : 0 ≤ n) : Dif (P 7 n) P (pset P n v m) := ⟨fun a h4 h5 => pset_o h4 h5, fun j j0 j1 h => by
  have e : j ≠ n := fun z => h (by rw [z])
  rw [pset4 hn j0, pset5 hn j0, if_neg e, if_neg e]; exact ⟨rfl, rfl⟩⟩
theorem flat_prune {P P' : Pg} {F : Fo} (hW : WF P) {s : Int} (hd : Dif s P P') (h5 : P 5 s = 1 → P' 5 s = 1) : ∀ (n : Nat) (u : Int) (σ : Sg), s ∉ (flat P F n u σ).2.2.2.2.2.2 → flat P' F n u σ = flat P F n u σ := by
  intro n
  induction n with
  | zero => intro u σ _; rfl
  | succ n ih =>
    intro u σ h
    have e2 : P' 2 = P 2 := hd.1 2 (by decide) (by decide)
    have e3 : P' 3 = P 3 := hd.1 3 (by decide) (by decide)
    have e8 : P' 8 = P 8 := hd.1 8 (by decide) (by decide)
    have e10 : P' 10 = P 10 := hd.1 10 (by decide) (by decide)
    have e11 : P' 11 = P 11 := hd.1 11 (by decide) (by decide)
    have e12 : P' 12 = P 12 := hd.1 12 (by decide) (by decide)
    rw [flat_succ] at h
    rw [flat_succ, flat_succ, e2, e3, e10]
    by_cases hu : 0 ≤ u ∧ u < P 2 15 ∧ P 3 u ≤ 3
    · rw [if_pos hu] at h
      rw [if_pos hu, if_pos hu]
      by_cases eu : u = s
      · subst eu
        by_cases k5 : P 5 u = 1
        · rw [if_pos k5] at h; rw [if_pos (h5 k5), if_pos k5]; exact ih _ _ h
        · rw [if_neg k5] at h
          exact absurd (flat_rc _ _ _ _ (by rw [fstep_rc]; exact List.mem_cons_self)) h
      · have ho : P 7 u = u := by
          obtain ⟨-, -, -, -, xo, -⟩ := hW.x.1 u hu.1 hu.2.1
          exact xo hu.2.2
        obtain ⟨m4, m5⟩ := hd.2 u hu.1 hu.2.1 (by rw [ho]; exact eu)
        rw [m5]
        by_cases k5 : P 5 u = 1
        · rw [if_pos k5] at h; rw [if_pos k5, if_pos k5]; exact ih _ _ h
        · rw [if_neg k5] at h; rw [if_neg k5, if_neg k5]
          have hf : fstep P' F u σ = fstep P F u σ := by
            obtain ⟨f, hE, hl⟩ := hW.r.2.1 u hu.1 hu.2.1 hu.2.2
            have hev : ∀ vr g, evx P' vr g (u + 1) = evx P vr g (u + 1) := fun vr g => evx_pc e3 e8 hE (fun m m1 m2 => by
              have hm : P 7 m = u := hW.x.2.1 u m hu (by omega) m2
              exact hd.2 m (by omega) (by omega) (by rw [hm]; exact eu)) g
            have hso : ∀ v a, soP P' F u v a = soP P F u v a := fun v a => by unfold soP; rw [m5]
            unfold fstep
            rw [hev, e3, e10, e11, e12, m4]
            simp only [hso]
          rw [hf]; exact ih _ _ h
    · rw [if_neg hu, if_neg hu]
theorem runP_prune {P P' : Pg} {F : Fo} (hW : WF P) {s : Int} (hd : Dif s P P') (h5 : P 5 s = 1 → P' 5 s = 1) {r : Int → Int} (h : s ∉ (runP P F r).2.2.2.2.2) : runP P' F r = runP P F r := by
  unfold runP
  rw [flat_prune hW hd h5 _ _ _ h]
theorem allP_prune {P P' : Pg} {F : Fo} {T : Ts} {nT : Int} (hW : WF P) {s : Int} (hd : Dif s P P') (h5 : ¬ P 5 s = 1) (h : ¬ ∀ t, 0 ≤ t → t < nT → nfB P F T t → s ∈ (runP P F (T t)).2.2.2.2.2) : ¬ allP P' F T nT := by
  intro ha
  apply h
  intro t t0 t1 hf
  by_cases hm : s ∈ (runP P F (T t)).2.2.2.2.2
  · exact hm
  · have h1 := ha t t0 t1 hf.1
    have h2 := hf.2
    unfold okT at h1 h2
    rw [runP_prune hW hd (fun z => absurd z h5) hm] at h1
    omega
theorem allP_nf {P : Pg} {F : Fo} {T : Ts} {nT : Int} : allP P F T nT ↔ ∀ t, 0 ≤ t → t < nT → ¬ nfB P F T t := by
  constructor
  · intro h t t0 t1 hf
    have h1 := h t t0 t1 hf.1
    have h2 := hf.2
    omega
  · intro h t t0 t1 h4
    rcases okT_01 P F T t with z | z
    · exact absurd ⟨h4, z⟩ (h t t0 t1)
    · exact z
theorem cn_zero {f : Int → Bool} : ∀ (n : Nat), cn f n = 0 ↔ ∀ t : Int, 0 ≤ t → t < n → f t = false := by
  intro n
  induction n with
  | zero => exact ⟨fun _ t t0 t1 => by omega, fun _ => rfl⟩
  | succ n ih =>
    have hc := cn_le f n
    show cn f n + (if f (n : Int) = true then 1 else 0) = 0 ↔ _
    by_cases e : f (n : Int) = true
    · rw [if_pos e]
      refine ⟨fun z => by omega, fun z => ?_⟩
      rw [z n (by omega) (by omega)] at e; exact absurd e (by decide)
    · rw [if_neg e, Int.add_zero, ih]
      refine ⟨fun z t t0 t1 => ?_, fun z t t0 t1 => z t t0 (by omega)⟩
      by_cases w : t = n
      · subst w; simpa using e
      · exact z t t0 (by omega)
theorem nfb_iff {P : Pg} {F : Fo} {T : Ts} {t : Int} : nfb P F T t = true ↔ nfB P F T t := by
  unfold nfb nfB hdB
  by_cases h : T t 4 = 1
  · simp [h]
  · simp [h]
theorem allP_cn {P : Pg} {F : Fo} {T : Ts} {nT : Int} (hn : 0 ≤ nT) : allP P F T nT ↔ cn (nfb P F T) nT.toNat = 0 := by
  rw [allP_nf, cn_zero]
  constructor
  · intro h t t0 t1
    cases e : nfb P F T t with
    | false => rfl
    | true => exact absurd (nfb_iff.mp e) (h t t0 (by omega))
  · intro h t t0 t1 hf
    have := nfb_iff.mpr hf
    rw [h t t0 (by omega)] at this
    exact absurd this (by decide)
/-- numbers of 32 bits -/
def i32 (x : Int) : Prop := -2147483648 ≤ x ∧ x < 2147483648
theorem i32_w (x : Int) : i32 (w32 x) := by unfold i32 w32; omega
theorem i32_0 : i32 0 := ⟨by decide, by decide⟩
theorem i32_1 : i32 1 := ⟨by decide, by decide⟩
theorem i32_if {p : Prop} [Decidable p] {a b : Int} (ha : i32 a) (hb : i32 b) : i32 (if p then a else b) := by
  by_cases h : p
  · rw [if_pos h]; exact ha
  · rw [if_neg h]; exact hb
theorem tmod_i32 {l r : Int} (hl : i32 l) : i32 (l.tmod r) := by
  have h := Int.natAbs_tmod l r
  have h2 := Nat.mod_le l.natAbs r.natAbs
  have h3 : 0 ≤ l → 0 ≤ l.tmod r := fun z => Int.tmod_nonneg _ z
  have h4 : l ≤ 0 → l.tmod r ≤ 0 := fun z => by
    have := Int.tmod_nonneg r (show 0 ≤ -l by omega)
    rw [Int.neg_tmod] at this; omega
  obtain ⟨a, b⟩ := hl
  generalize l.tmod r = x at *
  rw [← h] at h2
  exact ⟨by omega, by omega⟩
theorem comb_i32 {s l r : Int} (hl : i32 l) : i32 (comb s l r) :=
  i32_if (i32_w _) (i32_if (i32_w _) (i32_if (i32_w _) (i32_if (i32_w _) (i32_if (tmod_i32 hl) (i32_if (i32_if i32_1 i32_0) (i32_if (i32_if i32_1 i32_0) (i32_if (i32_if i32_1 i32_0) (i32_if (i32_if i32_0 i32_1) (i32_if (i32_if i32_0 i32_1) (i32_if i32_0 i32_1))))))))))
theorem evx_i32 {P : Pg} {vr : Int → Int} (hv : ∀ j, 0 ≤ j → j < 9 → i32 (vr j)) : ∀ {f : Nat} {n e : Int}, Ex P f n e → (∀ m, n ≤ m → m ≤ e → (P 3 m = 5 → 0 ≤ P 4 m ∧ P 4 m < 9) ∧ (P 3 m = 4 → i32 (P 4 m))) → ∀ g v, evx P vr g n = some v → i32 v := by
  intro f
  induction f with
  | zero => intro n e h; exact h.elim
  | succ f ih =>
    intro n e h hm g v hev
    cases g with
    | zero => exact absurd hev (by simp [evx])
    | succ g =>
      have hle := h.le
      obtain ⟨m5, m4⟩ := hm n (Int.le_refl _) hle
      unfold evx at hev
      rcases h with ⟨h0, h⟩ | ⟨h0, h⟩ | ⟨h0, h⟩ | ⟨h0, ha, hb⟩
      · rw [if_pos h0] at hev
        have : P 4 n = v := by simpa using hev
        rw [← this]; exact m4 h0
      · rw [if_neg (by omega), if_pos h0] at hev
        have : vr (P 4 n) = v := by simpa using hev
        rw [← this]; exact hv _ (m5 h0).1 (m5 h0).2
      · rw [if_neg (by omega), if_neg (by omega), if_pos h0] at hev
        cases hx : evx P vr g (n + 1) with
        | none => rw [hx] at hev; exact absurd hev (by simp)
        | some x =>
          rw [hx] at hev
          have hxi := ih h (fun m m1 m2 => hm m (by omega) m2) g x hx
          have : (if P 5 n = 1 then x else w32 (-x)) = v := by simpa using hev
          rw [← this]
          split
          · exact hxi
          · exact i32_w _
      · have hla := ha.le
        have hlb := hb.le
        rw [if_neg (by omega), if_neg (by omega), if_neg (by omega)] at hev
        cases hx : evx P vr g (n + 1) with
        | none => rw [hx] at hev; exact absurd hev (by simp)
        | some x =>
          rw [hx] at hev
          cases hy : evx P vr g (P 8 n) with
          | none => rw [hy] at hev; exact absurd hev (by simp)
          | some y =>
            rw [hy] at hev
            have hxi := ih ha (fun m m1 m2 => hm m (by omega) (by omega)) g x hx
            have hyi := ih hb (fun m m1 m2 => hm m (by omega) m2) g y hy
            simp only [] at hev
            unfold cmb at hev
            by_cases hz : (if P 5 n = 3 then x else y) = 0 ∧ (P 4 n = 3 ∨ P 4 n = 4)
            · rw [if_pos hz] at hev; exact absurd hev (by simp)
            · rw [if_neg hz] at hev
              have : comb (P 4 n) (if P 5 n = 3 then y else x) (if P 5 n = 3 then x else y) = v := Option.some.inj hev
              rw [← this]
              exact comb_i32 (i32_if hyi hxi)
def Si (σ : Sg) : Prop := (∀ j, 0 ≤ j → j < 9 → i32 (σ.1 j)) ∧ (0 ≤ σ.2.2.1 ∧ σ.2.2.1 ≤ 2) ∧ i32 σ.2.2.2.1
theorem fstep_i {P : Pg} {F : Fo} (hW : WF P) {s : Int} {σ : Sg} (hs : isSt P s) (h : Si σ) : Si (fstep P F s σ).2 := by
  obtain ⟨a, b, c⟩ := h
  unfold fstep
  split
  · exact ⟨a, ⟨show (0 : Int) ≤ 2 by decide, show (2 : Int) ≤ 2 by decide⟩, c⟩
  · cases hev : evx P σ.1 60 (s + 1) with
    | none => exact ⟨a, ⟨show (0 : Int) ≤ 1 by decide, show (1 : Int) ≤ 2 by decide⟩, c⟩
    | some v =>
      obtain ⟨f, hE, hl⟩ := hW.r.2.1 s hs.1 hs.2.1 hs.2.2
      have s0 : 0 ≤ s := hs.1
      have hvi : i32 v := evx_i32 a hE (fun m m1 m2 => ⟨fun z => hW.r.2.2 m (by omega) (by omega) (Or.inl z), fun z => (hW.v.2 m (by omega) (by omega)).2.2 z⟩) 60 v hev
      simp only []
      split
      · refine ⟨?_, b, c⟩
        intro j j0 j1
        show i32 (if j.toNat = (P 4 s).toNat then v else σ.1 j)
        split
        · exact hvi
        · exact a j j0 j1
      · split
        · exact ⟨a, b, hvi⟩
        · exact ⟨a, b, c⟩
theorem flat_i {P : Pg} {F : Fo} (hW : WF P) : ∀ (n : Nat) (s : Int) (σ : Sg), Si σ → Si (flat P F n s σ).2 := by
  intro n
  induction n with
  | zero => intro s σ h; exact h
  | succ n ih =>
    intro s σ h
    rw [flat_succ]
    by_cases hs : 0 ≤ s ∧ s < P 2 15 ∧ P 3 s ≤ 3
    · rw [if_pos hs]
      by_cases h5 : P 5 s = 1
      · rw [if_pos h5]; exact ih _ _ h
      · rw [if_neg h5]; exact ih _ _ (fstep_i hW hs h)
    · rw [if_neg hs]; exact h
theorem runP_i {P : Pg} {F : Fo} (hW : WF P) {r : Int → Int} (hr : ∀ j, 0 ≤ j → j < 3 → i32 (r j)) : Si (runP P F r) := by
  refine flat_i hW _ _ _ ⟨?_, ⟨show (0 : Int) ≤ 0 by decide, show (0 : Int) ≤ 2 by decide⟩, i32_0⟩
  intro j j0 j1
  show i32 (if j.toNat < 3 then r (j.toNat : Int) else 0)
  split
  · exact hr _ (by omega) (by omega)
  · exact i32_0
/-- how a run ends and what it returns, in one long number -/
def enl (h v : Int) : Int := pm_lor (pm_lshl h 32) (pm_land v 4294967295)
theorem enl_nat {h v : Int} (hh : 0 ≤ h ∧ h ≤ 2) : (Int64.ofInt (enl h v)).toBitVec.toNat = h.toNat * 4294967296 + (Int64.ofInt v).toBitVec.toNat % 4294967296 := by
  unfold enl pm_lor pm_land
  rw [Int64.ofInt_toInt, Int64.ofInt_toInt, Int64.toBitVec_or, Int64.toBitVec_and, BitVec.toNat_or, BitVec.toNat_and]
  have e1 : (Int64.ofInt (pm_lshl h 32)).toBitVec.toNat = h.toNat <<< 32 := by
    have h3 : h = 0 ∨ h = 1 ∨ h = 2 := by omega
    rcases h3 with rfl | rfl | rfl <;> decide +kernel
  have e2 : (Int64.ofInt 4294967295).toBitVec.toNat = 2 ^ 32 - 1 := by decide +kernel
  rw [e1, e2, Nat.and_two_pow_sub_one_eq_mod, ← Nat.shiftLeft_add_eq_or_of_lt (Nat.mod_lt _ (by decide)), Nat.shiftLeft_eq]
theorem i32_nat {v : Int} (hv : i32 v) : (Int64.ofInt v).toBitVec.toNat % 4294967296 = (v % 4294967296).toNat := by
  have e : (Int64.ofInt v).toBitVec = BitVec.ofInt 64 v := rfl
  rw [e, BitVec.toNat_ofInt]
  unfold i32 at hv
  omega
theorem enl_inj {h v h' v' : Int} (hh : 0 ≤ h ∧ h ≤ 2) (hh' : 0 ≤ h' ∧ h' ≤ 2) (hv : i32 v) (hv' : i32 v') : enl h v = enl h' v' ↔ h = h' ∧ v = v' := by
  constructor
  · intro e
    have e1 := enl_nat (v := v) hh
    rw [e, enl_nat (v := v') hh', i32_nat hv, i32_nat hv'] at e1
    unfold i32 at hv hv'
    omega
  · intro e; rw [e.1, e.2]
theorem lcmp_0 {a b : Int} : pm_lcmp a b = 0 ↔ a = b := by
  unfold pm_lcmp
  split
  · constructor
    · intro h; omega
    · intro h; omega
  · split
    · constructor
      · intro h; omega
      · intro h; omega
    · constructor
      · intro h; omega
      · intro h; omega

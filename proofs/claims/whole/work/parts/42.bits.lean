-- needs 30 31 32 40
/-! bits of the long numbers that tell what runs come to -/
def bt (x s : Int) : Prop := pm_land (pm_lshr x s) 1 = 1
theorem pm_sh63 {s : Int} (h0 : 0 ≤ s) (h1 : s < 60) : ((Int32.ofInt s).toInt64 &&& 63) = Int64.ofInt s := by
  obtain ⟨k, rfl⟩ : ∃ k : Nat, s = (k : Int) := ⟨s.toNat, by omega⟩
  have hk : k < 60 := by omega
  clear h0 h1
  revert hk
  revert k
  decide +kernel
theorem pm_sh63n {s : Int} (h0 : 0 ≤ s) (h1 : s < 60) : ((Int64.ofInt s).toBitVec.smod 64).toNat = s.toNat := by
  obtain ⟨k, rfl⟩ : ∃ k : Nat, s = (k : Int) := ⟨s.toNat, by omega⟩
  have hk : k < 60 := by omega
  clear h0 h1
  revert hk
  revert k
  decide +kernel
theorem bt_iff {x s : Int} (h0 : 0 ≤ s) (h1 : s < 60) : bt x s ↔ (Int64.ofInt x).toBitVec.getLsbD s.toNat = true := by
  unfold bt pm_land pm_lshr
  rw [pm_sh63 h0 h1, Int64.ofInt_toInt]
  have e1 : ((Int64.ofInt x >>> Int64.ofInt s) &&& Int64.ofInt 1).toInt = 1 ↔ ((Int64.ofInt x >>> Int64.ofInt s) &&& Int64.ofInt 1) = Int64.ofInt 1 := by
    constructor
    · intro h; rw [← Int64.ofInt_toInt ((Int64.ofInt x >>> Int64.ofInt s) &&& Int64.ofInt 1), h]
    · intro h; rw [h]; rfl
  rw [e1, ← Int64.toBitVec_inj, Int64.toBitVec_and, Int64.toBitVec_shiftRight]
  have e2 : (Int64.ofInt 1).toBitVec = 1#64 := rfl
  rw [e2, BitVec.sshiftRight_eq', pm_sh63n h0 h1, BitVec.and_one_eq_setWidth_ofBool_getLsbD, BitVec.getLsbD_sshiftRight]
  rw [if_pos (show s.toNat + 0 < 64 by omega), Nat.add_zero]
  cases (Int64.ofInt x).toBitVec.getLsbD s.toNat <;> decide
theorem bt_and {x y s : Int} (h0 : 0 ≤ s) (h1 : s < 60) : bt (pm_land x y) s ↔ bt x s ∧ bt y s := by
  rw [bt_iff h0 h1, bt_iff h0 h1, bt_iff h0 h1]
  unfold pm_land
  rw [Int64.ofInt_toInt, Int64.toBitVec_and, BitVec.getLsbD_and, Bool.and_eq_true]
theorem bt_or {x s t : Int} (h0 : 0 ≤ s) (h1 : s < 60) (t0 : 0 ≤ t) (t1 : t < 60) : bt (pm_lor x (pm_lshl 1 t)) s ↔ s = t ∨ bt x s := by
  rw [bt_iff h0 h1, bt_iff h0 h1]
  unfold pm_lor pm_lshl
  rw [pm_sh63 t0 t1, Int64.ofInt_toInt, Int64.ofInt_toInt, Int64.toBitVec_or, BitVec.getLsbD_or, Bool.or_eq_true, or_comm]
  have e : (Int64.ofInt 1 <<< Int64.ofInt t).toBitVec.getLsbD s.toNat = true ↔ s = t := by
    obtain ⟨k, rfl⟩ : ∃ k : Nat, s = (k : Int) := ⟨s.toNat, by omega⟩
    obtain ⟨j, rfl⟩ : ∃ k : Nat, t = (k : Int) := ⟨t.toNat, by omega⟩
    have hk : k < 60 := by omega
    have hj : j < 60 := by omega
    clear h0 h1 t0 t1
    rw [Int.toNat_natCast]
    have : ∀ k : Nat, k < 60 → ∀ j : Nat, j < 60 → ((Int64.ofInt 1 <<< Int64.ofInt (j : Int)).toBitVec.getLsbD k = decide (k = j)) := by decide +kernel
    rw [this k hk j hj, decide_eq_true_iff]
    omega
  rw [e]
theorem bt_m1 {s : Int} (h0 : 0 ≤ s) (h1 : s < 60) : bt (-1) s := by
  obtain ⟨k, rfl⟩ : ∃ k : Nat, s = (k : Int) := ⟨s.toNat, by omega⟩
  have hk : k < 60 := by omega
  have : ∀ k : Nat, k < 60 → pm_land (pm_lshr (-1) (k : Int)) 1 = 1 := by decide +kernel
  exact this k hk
theorem bt_0 {s : Int} (h0 : 0 ≤ s) (h1 : s < 60) : ¬ bt 0 s := by
  obtain ⟨k, rfl⟩ : ∃ k : Nat, s = (k : Int) := ⟨s.toNat, by omega⟩
  have hk : k < 60 := by omega
  have : ∀ k : Nat, k < 60 → ¬ pm_land (pm_lshr 0 (k : Int)) 1 = 1 := by decide +kernel
  exact this k hk
theorem bt_lcmp {x s : Int} : pm_lcmp (pm_land (pm_lshr x s) 1) 1 = 0 ↔ bt x s := by
  unfold bt pm_lcmp
  by_cases h : 1 < pm_land (pm_lshr x s) 1
  · rw [if_pos h]
    constructor
    · intro h; exact absurd h (by decide)
    · intro h'; omega
  · rw [if_neg h]
    by_cases h' : pm_land (pm_lshr x s) 1 = 1
    · rw [if_pos h']; exact ⟨fun _ => h', fun _ => rfl⟩
    · rw [if_neg h']
      constructor
      · intro h; exact absurd h (by decide)
      · intro h''; exact absurd h'' h'

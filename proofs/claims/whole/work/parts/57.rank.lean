-- needs 30 31 32 33a 33b 33c 33d 33e 33f 33g 33h 33i 33j 40 41 42 43 44 45 46 50 51 52 53 54 56
/-! scores and ranks; the class learns them -/
noncomputable def dB (P : Pg) (F : Fo) (T : Ts) (s b t : Int) : Bool := hdB T 0 t && (decide (okT P F T t = b) && decide (s ∈ (runP P F (T t)).2.1))
noncomputable def nD (P : Pg) (F : Fo) (T : Ts) (nT b s : Int) : Int := cn (dB P F T s b) nT.toNat
noncomputable def nF (P : Pg) (F : Fo) (T : Ts) (nT : Int) : Int := cn (nfb P F T) nT.toNat
noncomputable def nP (P : Pg) (F : Fo) (T : Ts) (nT : Int) : Int := cn (psB P F T 0) nT.toNat
theorem cn_mono {f g : Int → Bool} (h : ∀ t, f t = true → g t = true) : ∀ n, cn f n ≤ cn g n := by
  intro n
  induction n with
  | zero => exact Int.le_refl _
  | succ n ih =>
    show cn f n + (if f (n : Int) = true then 1 else 0) ≤ cn g n + (if g (n : Int) = true then 1 else 0)
    by_cases e : f (n : Int) = true
    · rw [if_pos e, if_pos (h _ e)]; omega
    · rw [if_neg e]; split <;> omega
theorem cn_add {f g : Int → Bool} (h : ∀ t, f t = true → g t = true → False) : ∀ n, cn f n + cn g n ≤ n := by
  intro n
  induction n with
  | zero => exact Int.le_refl _
  | succ n ih =>
    show (cn f n + (if f (n : Int) = true then 1 else 0)) + (cn g n + (if g (n : Int) = true then 1 else 0)) ≤ ((n + 1 : Nat) : Int)
    by_cases e : f (n : Int) = true
    · rw [if_pos e, if_neg (fun z => h _ e z)]; omega
    · rw [if_neg e]; split <;> omega
theorem nums {P : Pg} {F : Fo} {T : Ts} {nT : Int} (hnT : 0 ≤ nT ∧ nT ≤ 16) (s : Int) : 0 ≤ nD P F T nT 0 s ∧ nD P F T nT 0 s ≤ nF P F T nT ∧ 0 ≤ nD P F T nT 1 s ∧ nD P F T nT 1 s ≤ nP P F T nT ∧ nF P F T nT + nP P F T nT ≤ 16 := by
  refine ⟨(cn_le _ _).1, ?_, (cn_le _ _).1, ?_, ?_⟩
  · refine cn_mono (fun t h => ?_) _
    unfold dB at h; unfold nfb
    simp only [Bool.and_eq_true] at h ⊢
    exact ⟨h.1, h.2.1⟩
  · refine cn_mono (fun t h => ?_) _
    unfold dB at h; unfold psB
    simp only [Bool.and_eq_true] at h ⊢
    exact ⟨h.1, h.2.1⟩
  · have := cn_add (f := nfb P F T) (g := psB P F T 0) (fun t h1 h2 => by
      unfold nfb at h1; unfold psB at h2
      simp only [Bool.and_eq_true, decide_eq_true_eq] at h1 h2
      omega) nT.toNat
    unfold nF nP; omega
def G (a b : Int) : Int := (Nat.gcd a.toNat b.toNat : Nat)
theorem G_pos {a b : Int} (h : 0 < a ∨ 0 < b) : 0 < G a b := by
  unfold G
  have : 0 < Nat.gcd a.toNat b.toNat := by
    rcases h with h | h
    · exact Nat.gcd_pos_of_pos_left _ (by omega)
    · exact Nat.gcd_pos_of_pos_right _ (by omega)
  omega
theorem G_0 {a : Int} (h : 0 ≤ a) : G a 0 = a := by
  unfold G
  rw [show (0 : Int).toNat = 0 from rfl, Nat.gcd_zero_right]; omega
theorem tm_nat {a b : Int} (ha : 0 ≤ a) (hb : 0 ≤ b) : a.tmod b = ((a.toNat % b.toNat : Nat) : Int) := by
  obtain ⟨x, rfl⟩ : ∃ k : Nat, a = (k : Int) := ⟨a.toNat, by omega⟩
  obtain ⟨y, rfl⟩ : ∃ k : Nat, b = (k : Int) := ⟨b.toNat, by omega⟩
  rw [Int.toNat_natCast, Int.toNat_natCast]; rfl
theorem G_step {a b : Int} (ha : 0 ≤ a) (hb : 0 ≤ b) : G b (a.tmod b) = G a b := by
  unfold G
  rw [tm_nat ha hb, Int.toNat_natCast, Nat.gcd_comm a.toNat b.toNat, Nat.gcd_rec b.toNat a.toNat, Nat.gcd_comm]
theorem td_nat {a b : Int} (ha : 0 ≤ a) (hb : 0 < b) : a.tdiv b = a / b ∧ 0 ≤ a / b ∧ a / b ≤ a := by
  refine ⟨Int.tdiv_eq_ediv_of_nonneg ha, Int.ediv_nonneg ha (by omega), Int.ediv_le_self _ ha⟩
theorem commonDivisor_r {M : pm_M} {K : Int → pm_M → Prop} {a b : Int} (ha : 0 ≤ a) (hb : 0 ≤ b) (hb' : b < 1024) (hq : K (G a b) M) : k5_commonDivisor a b M K := by
  apply k5_commonDivisor_r
  have stop : ∀ a i, 0 ≤ a → K (G a 0) M → k5_commonDivisor_7 a 0 i M K := by
    intro a i ha hq
    apply k5_commonDivisor_7_r
    rw [G_0 ha] at hq
    rw [if_pos rfl]
    split <;> exact hq
  have loop : ∀ (j : Nat) (a b i : Int), 0 ≤ a → 0 ≤ b → b < 2 ^ j → 0 ≤ i → i + 2 * j + 1 ≤ 64 → K (G a b) M → k5_commonDivisor_7 a b i M K := by
    intro j
    induction j with
    | zero =>
      intro a b i ha hb hbj hi hij hq
      have : b = 0 := by rw [Int.pow_zero] at hbj; omega
      subst this
      exact stop a i ha hq
    | succ j ih =>
      intro a b i ha hb hbj hi hij hq
      by_cases e : b = 0
      · subst e; exact stop a i ha hq
      apply k5_commonDivisor_7_r
      rw [if_pos (by omega), if_neg e, w32_id (show -2147483648 ≤ i + 1 ∧ i + 1 < 2147483648 by omega)]
      rw [← G_step ha hb] at hq
      have hr := tm_nat ha hb
      generalize hrr : a.tmod b = r at *
      have r0 : 0 ≤ r := by omega
      have rb : r < b := by
        have := Nat.mod_lt a.toNat (show 0 < b.toNat by omega)
        omega
      by_cases e2 : r = 0
      · rw [e2] at hq ⊢; exact stop b _ hb hq
      apply k5_commonDivisor_7_r
      rw [if_pos (by omega), if_neg e2, w32_id (show -2147483648 ≤ i + 1 + 1 ∧ i + 1 + 1 < 2147483648 by omega)]
      rw [← G_step hb r0] at hq
      have hr2 := tm_nat hb r0
      refine ih r (b.tmod r) _ r0 (by omega) ?_ (by omega) (by omega) hq
      have h1 := Nat.mod_lt b.toNat (show 0 < r.toNat by omega)
      have h2 := Nat.mod_add_div b.toNat r.toNat
      have h3 : 1 ≤ b.toNat / r.toNat := (Nat.le_div_iff_mul_le (by omega)).mpr (by omega)
      have h4 : r.toNat * 1 ≤ r.toNat * (b.toNat / r.toNat) := Nat.mul_le_mul_left _ h3
      rw [Int.pow_succ] at hbj
      omega
  exact loop 10 a b 0 ha hb (by omega) (by decide) (by decide) hq
def sov (r f p q o : Int) : Int := if r = 0 then (if o = 0 then f else f * o) else if r = 1 then f * f else if 0 < f ∧ p + q - f = 0 then 1000 else f * f
def sun (r f p q o : Int) : Int := if r = 0 then (if o = 0 then f else f * o + p * q) else if r = 1 then q * (f + p) else if p + q - f = 0 then 1 else p + q - f
def abv (o u : Int) : Int := if o = 0 then 0 else o / G o u
def blw (o u : Int) : Int := if o = 0 then 1 else u / G o u
theorem mulb {a b : Int} (ha : 0 ≤ a) (ha' : a ≤ 16) (hb : 0 ≤ b) (hb' : b ≤ 16) : 0 ≤ a * b ∧ a * b ≤ 256 := ⟨Int.mul_nonneg ha hb, by
  have := Int.mul_le_mul ha' hb' hb (by decide : (0 : Int) ≤ 16)
  omega⟩
theorem keepScore_r {M : pm_M} {K : pm_M → Prop} {r s o u : Int} (hr : 0 ≤ r ∧ r < 3) (hs : 0 ≤ s ∧ s < 60) (ho : 0 ≤ o ∧ o < 100000) (hu : 0 ≤ u ∧ u < 1024) (hq : K (upI (upI M (121 + r.toNat) s (abv o u)) (125 + r.toNat) s (blw o u))) : k5_keepScore r s o u M K := by
  apply k5_keepScore_r
  unfold abv blw at hq
  by_cases e : o = 0
  · rw [if_pos e] at hq ⊢
    rw [if_pos e] at hq
    exact ⟨hr, hs, hq⟩
  · rw [if_neg e] at hq ⊢
    rw [if_neg e] at hq
    refine commonDivisor_r ho.1 hu.1 hu.2 ?_
    have hg := G_pos (a := o) (b := u) (Or.inl (by omega))
    have t1 := td_nat ho.1 hg
    have t2 := td_nat hu.1 hg
    refine ⟨hr, ?_⟩
    rw [if_neg (by omega)]
    refine ⟨hs, ?_⟩
    rw [t1.1, t2.1, w32_id (by omega), w32_id (by omega)]
    exact hq
noncomputable def sA (P : Pg) (F : Fo) (T : Ts) (nT r s : Int) : Int := abv (sov r (nD P F T nT 0 s) (nD P F T nT 1 s) (nF P F T nT) (nP P F T nT)) (sun r (nD P F T nT 0 s) (nD P F T nT 1 s) (nF P F T nT) (nP P F T nT))
noncomputable def sB (P : Pg) (F : Fo) (T : Ts) (nT r s : Int) : Int := blw (sov r (nD P F T nT 0 s) (nD P F T nT 1 s) (nF P F T nT) (nP P F T nT)) (sun r (nD P F T nT 0 s) (nD P F T nT 1 s) (nF P F T nT) (nP P F T nT))
def pSc (s : Int) (a i : Nat) : Bool := ((121 ≤ a && a ≤ 123) || (125 ≤ a && a ≤ 127)) && i == s.toNat
theorem learnScores_r {M : pm_M} {K : pm_M → Prop} {s f p q o : Int} (hs : 0 ≤ s ∧ s < 60) (hf : gI M 118 s = f) (hp : gI M 119 s = p) (hq' : gI M 77 11 = q) (ho : gI M 77 10 = o) (hn : 0 ≤ f ∧ f ≤ q ∧ 0 ≤ p ∧ p ≤ o ∧ q + o ≤ 16)
    (hq : ∀ M', Fr (pSc s) M M' → (∀ r, 0 ≤ r → r < 3 → gI M' (121 + r.toNat) s = abv (sov r f p q o) (sun r f p q o) ∧ gI M' (125 + r.toNat) s = blw (sov r f p q o) (sun r f p q o)) → K M') : k5_learnScores s M K := by
  obtain ⟨n1, n2, n3, n4, n5⟩ := hn
  have b1 := mulb n1 (by omega) n1 (by omega)
  have b2 := mulb n1 (by omega) (show 0 ≤ o by omega) (by omega)
  have b3 := mulb n3 (by omega) (show 0 ≤ q by omega) (by omega)
  have b4 := mulb (show 0 ≤ q by omega) (by omega) (show 0 ≤ f + p by omega) (by omega)
  apply k5_learnScores_r
  refine ⟨hs, ?_⟩
  rw [hf, hp, hq', ho]
  have w1 : w32 (f * f) = f * f := w32_id (by omega)
  have w2 : w32 (f * o) = f * o := w32_id (by omega)
  have w3 : w32 (p * q) = p * q := w32_id (by omega)
  have w4 : w32 (f * o + p * q) = f * o + p * q := w32_id (by omega)
  have w5 : w32 (f + p) = f + p := w32_id (by omega)
  have w6 : w32 (q * (f + p)) = q * (f + p) := w32_id (by omega)
  have w7 : w32 (p + q) = p + q := w32_id (by omega)
  have w8 : w32 (p + q - f) = p + q - f := w32_id (by omega)
  rw [w1, w2, w3, w4, w5, w6, w7, w8]
  -- the end, all scores known
  have fin : ∀ o0 u0 o1 u1 o2 u2, o0 = sov 0 f p q o → u0 = sun 0 f p q o → o1 = sov 1 f p q o → u1 = sun 1 f p q o → o2 = sov 2 f p q o → u2 = sun 2 f p q o → K (upI (upI (upI (upI (upI (upI M (121 + (0 : Int).toNat) s (abv o0 u0)) (125 + (0 : Int).toNat) s (blw o0 u0)) (121 + (1 : Int).toNat) s (abv o1 u1)) (125 + (1 : Int).toNat) s (blw o1 u1)) (121 + (2 : Int).toNat) s (abv o2 u2)) (125 + (2 : Int).toNat) s (blw o2 u2)) := by
    intro o0 u0 o1 u1 o2 u2 e1 e2 e3 e4 e5 e6
    subst e1 e2 e3 e4 e5 e6
    refine hq _ ((((((Fr.rf.up _ (by simp [pSc])).up _ (by simp [pSc])).up _ (by simp [pSc])).up _ (by simp [pSc])).up _ (by simp [pSc])).up _ (by simp [pSc])) ?_
    intro r r0 r1
    have h3 : r = 0 ∨ r = 1 ∨ r = 2 := by omega
    rcases h3 with rfl | rfl | rfl
    · constructor
      · rw [gI_ne _ _ _ _ (by decide), gI_ne _ _ _ _ (by decide), gI_ne _ _ _ _ (by decide), gI_ne _ _ _ _ (by decide), gI_ne _ _ _ _ (by decide), gI_eq]
      · rw [gI_ne _ _ _ _ (by decide), gI_ne _ _ _ _ (by decide), gI_ne _ _ _ _ (by decide), gI_ne _ _ _ _ (by decide), gI_eq]
    · constructor
      · rw [gI_ne _ _ _ _ (by decide), gI_ne _ _ _ _ (by decide), gI_ne _ _ _ _ (by decide), gI_eq]
      · rw [gI_ne _ _ _ _ (by decide), gI_ne _ _ _ _ (by decide), gI_eq]
    · constructor
      · rw [gI_ne _ _ _ _ (by decide), gI_eq]
      · rw [gI_eq]
  have s1 : sov 1 f p q o = f * f := by unfold sov; rw [if_neg (by decide), if_pos rfl]
  have u1 : sun 1 f p q o = q * (f + p) := by unfold sun; rw [if_neg (by decide), if_pos rfl]
  have s2 : sov 2 f p q o = if 0 < f ∧ p + q - f = 0 then 1000 else f * f := by unfold sov; rw [if_neg (by decide), if_neg (by decide)]
  have u2 : sun 2 f p q o = if p + q - f = 0 then 1 else p + q - f := by unfold sun; rw [if_neg (by decide), if_neg (by decide)]
  -- the third score
  have third : ∀ o0 u0, o0 = sov 0 f p q o → u0 = sun 0 f p q o → ∀ M5, M5 = upI (upI (upI (upI M (121 + (0 : Int).toNat) s (abv o0 u0)) (125 + (0 : Int).toNat) s (blw o0 u0)) (121 + (1 : Int).toNat) s (abv (f * f) (q * (f + p)))) (125 + (1 : Int).toNat) s (blw (f * f) (q * (f + p))) → (if f ≤ 0 then (if p + q - f = 0 then k5_keepScore 2 s (f * f) 1 M5 (fun M9 => K M9) else k5_keepScore 2 s (f * f) (p + q - f) M5 (fun M11 => K M11)) else (if p + q - f = 0 then k5_keepScore 2 s 1000 1 M5 (fun M14 => K M14) else k5_keepScore 2 s (f * f) (p + q - f) M5 (fun M16 => K M16))) := by
    intro o0 u0 e0 e0' M5 e5
    subst e5
    by_cases z : f ≤ 0
    · rw [if_pos z]
      rw [if_neg (by omega)] at s2
      by_cases y : p + q - f = 0
      · rw [if_pos y] at u2 ⊢
        exact keepScore_r (by decide) hs (by omega) (by decide) (fin _ _ _ _ _ _ e0 e0' s1.symm u1.symm s2.symm u2.symm)
      · rw [if_neg y] at u2 ⊢
        exact keepScore_r (by decide) hs (by omega) (by omega) (fin _ _ _ _ _ _ e0 e0' s1.symm u1.symm s2.symm u2.symm)
    · rw [if_neg z]
      by_cases y : p + q - f = 0
      · rw [if_pos y] at u2 ⊢
        rw [if_pos ⟨by omega, y⟩] at s2
        exact keepScore_r (by decide) hs (by decide) (by decide) (fin _ _ _ _ _ _ e0 e0' s1.symm u1.symm s2.symm u2.symm)
      · rw [if_neg y] at u2 ⊢
        rw [if_neg (fun w => y w.2)] at s2
        exact keepScore_r (by decide) hs (by omega) (by omega) (fin _ _ _ _ _ _ e0 e0' s1.symm u1.symm s2.symm u2.symm)
  have s0 : sov 0 f p q o = if o = 0 then f else f * o := by unfold sov; rw [if_pos rfl]
  have u0 : sun 0 f p q o = if o = 0 then f else f * o + p * q := by unfold sun; rw [if_pos rfl]
  by_cases e : o = 0
  · rw [if_pos e] at s0 u0 ⊢
    refine keepScore_r (by decide) hs (by omega) (by omega) ?_
    refine keepScore_r (by decide) hs (by omega) (by omega) ?_
    exact third _ _ s0.symm u0.symm _ rfl
  · rw [if_neg e] at s0 u0 ⊢
    refine keepScore_r (by decide) hs (by omega) (by omega) ?_
    refine keepScore_r (by decide) hs (by omega) (by omega) ?_
    exact third _ _ s0.symm u0.symm _ rfl
theorem shownThatDo_r {P : Pg} {F : Fo} {T : Ts} {nT : Int} {M : pm_M} {K : Int → pm_M → Prop} {s b : Int} (hs : 0 ≤ s ∧ s < 60) (hT : CT T nT M) (hk : ∀ t, 0 ≤ t → t < nT → RK1 P F T t M) (hq : K (nD P F T nT b s) M) : k6_shownThatDo s b M K := by
  have hnT := hT.2.1
  apply k6_shownThatDo_r
  refine upto (n := nT) (I := fun t (_ : Unit) => True) (Q := fun t _ => k6_shownThatDo_5 s b (cn (dB P F T s b) t.toNat) t M K) ?_ ?_ 0 () (by omega) (by omega) trivial
  · intro _ _
    apply k6_shownThatDo_5_r
    rw [hT.1, if_neg (by omega)]
    exact hq
  · intro t _ t0 t1 _ ih
    have h2 := ih () trivial
    have hc := cn_le (dB P F T s b) t.toNat
    apply k6_shownThatDo_5_r
    rw [hT.1, if_pos t1, if_neg (by omega), w32_id (show -2147483648 ≤ t + 1 ∧ t + 1 < 2147483648 by omega), w32_id (show -2147483648 ≤ cn (dB P F T s b) t.toNat + 1 ∧ cn (dB P F T s b) t.toNat + 1 < 2147483648 by omega)]
    refine ⟨⟨t0, by omega⟩, ?_⟩
    obtain ⟨-, -, -, -, r82, -, r101⟩ := hk t t0 t1
    rw [hT.2.2 t 4 t0 t1 (by decide) (by decide), r82, r101 s hs.1 hs.2]
    have no : dB P F T s b t = false → k6_shownThatDo_5 s b (cn (dB P F T s b) t.toNat) (t + 1) M K := by
      intro h; rw [cn_no t0 h] at h2; exact h2
    have yes : dB P F T s b t = true → k6_shownThatDo_5 s b (cn (dB P F T s b) t.toNat + 1) (t + 1) M K := by
      intro h; rw [cn_yes t0 h] at h2; exact h2
    by_cases h4 : T t 4 = 1
    · rw [if_pos h4]; exact no (by unfold dB hdB; rw [if_pos h4]; simp)
    rw [if_neg h4]
    by_cases hb : okT P F T t = b
    · rw [if_pos hb]
      refine ⟨hs, ?_⟩
      by_cases hm : s ∈ (runP P F (T t)).2.1
      · have := List.count_pos_iff.mpr hm
        rw [if_neg (by omega)]
        exact yes (by unfold dB hdB; rw [if_neg h4]; simp [hb, hm])
      · have := List.count_eq_zero.mpr hm
        rw [if_pos (by omega)]
        exact no (by unfold dB; simp [hm])
    · rw [if_neg hb]; exact no (by unfold dB; simp [hb])
/-- a row in order -/
def plc (mr : Int → Int → Bool) (f : Int → Int) (x : Int) : Nat → Nat
  | 0 => 0
  | k + 1 => if mr x (f (k : Int)) = true then plc mr f x k else k + 1
def ord (mr : Int → Int → Bool) (st : Int → Int) : Nat → Int → Int
  | 0 => fun _ => 0
  | n + 1 => fun j => if j < (plc mr (ord mr st n) (st (n : Int)) n : Nat) then ord mr st n j else if j = (plc mr (ord mr st n) (st (n : Int)) n : Nat) then st (n : Int) else ord mr st n (j - 1)
theorem plc_le {mr : Int → Int → Bool} {f : Int → Int} {x : Int} : ∀ k, plc mr f x k ≤ k := by
  intro k
  induction k with
  | zero => exact Nat.le_refl _
  | succ k ih =>
    show (if mr x (f (k : Int)) = true then plc mr f x k else k + 1) ≤ k + 1
    split <;> omega
theorem ord_mem {mr : Int → Int → Bool} {st : Int → Int} : ∀ (n : Nat) (j : Int), 0 ≤ j → j < n → ∃ i : Int, 0 ≤ i ∧ i < n ∧ ord mr st n j = st i := by
  intro n
  induction n with
  | zero => intro j j0 j1; omega
  | succ n ih =>
    intro j j0 j1
    have hle := plc_le (mr := mr) (f := ord mr st n) (x := st (n : Int)) n
    show ∃ i : Int, 0 ≤ i ∧ i < ((n + 1 : Nat) : Int) ∧ (if j < (plc mr (ord mr st n) (st (n : Int)) n : Nat) then ord mr st n j else if j = (plc mr (ord mr st n) (st (n : Int)) n : Nat) then st (n : Int) else ord mr st n (j - 1)) = st i
    split
    · obtain ⟨i, i0, i1, e⟩ := ih j j0 (by omega)
      exact ⟨i, i0, by omega, e⟩
    · split
      · exact ⟨n, by omega, by omega, rfl⟩
      · obtain ⟨i, i0, i1, e⟩ := ih (j - 1) (by omega) (by omega)
        exact ⟨i, i0, by omega, e⟩
theorem ord_step {mr : Int → Int → Bool} {st : Int → Int} {n k : Nat} {g : Int → Int} (hk : k ≤ n) (hp : plc mr (ord mr st n) (st (n : Int)) n = k) (h1 : ∀ j, 0 ≤ j → j < (k : Int) → g j = ord mr st n j) (h2 : ∀ j, (k : Int) < j → j ≤ (n : Int) → g j = ord mr st n (j - 1)) (h3 : g (k : Int) = st (n : Int)) : ∀ j, 0 ≤ j → j < ((n + 1 : Nat) : Int) → g j = ord mr st (n + 1) j := by
  intro j j0 j1
  show g j = (if j < (plc mr (ord mr st n) (st (n : Int)) n : Nat) then ord mr st n j else if j = (plc mr (ord mr st n) (st (n : Int)) n : Nat) then st (n : Int) else ord mr st n (j - 1))
  rw [hp]
  by_cases e : j < (k : Int)
  · rw [if_pos e]; exact h1 j j0 e
  · rw [if_neg e]
    by_cases e2 : j = (k : Int)
    · rw [if_pos e2, e2]; exact h3
    · rw [if_neg e2]; exact h2 j (by omega) (by omega)
noncomputable def mrr (P : Pg) (F : Fo) (T : Ts) (nT r x y : Int) : Bool := !decide (w32 (sA P F T nT r x * sB P F T nT r y) ≤ w32 (sA P F T nT r y * sB P F T nT r x))
theorem mrr_f {P : Pg} {F : Fo} {T : Ts} {nT r x y : Int} (h : w32 (sA P F T nT r x * sB P F T nT r y) ≤ w32 (sA P F T nT r y * sB P F T nT r x)) : ¬ mrr P F T nT r x y = true := by unfold mrr; simp [h]
theorem mrr_t {P : Pg} {F : Fo} {T : Ts} {nT r x y : Int} (h : ¬ w32 (sA P F T nT r x * sB P F T nT r y) ≤ w32 (sA P F T nT r y * sB P F T nT r x)) : mrr P F T nT r x y = true := by unfold mrr; rw [decide_eq_false h]; rfl
/-- the statements as ranked -/
noncomputable def rk (P : Pg) (F : Fo) (T : Ts) (nT r : Int) : Int → Int := ord (mrr P F T nT r) (P 14) (P 2 16).toNat
theorem learnOrder_r {P : Pg} {F : Fo} {T : Ts} {nT : Int} (hW : WF P) {M : pm_M} {K : pm_M → Prop} {r : Int} (hr : 0 ≤ r ∧ r < 3) (hS : Sm P M) (hs : ∀ s, isSt P s → gI M (121 + r.toNat) s = sA P F T nT r s ∧ gI M (125 + r.toNat) s = sB P F T nT r s)
    (hq : ∀ M', Fr (fun a _ => a == 129 + r.toNat) M M' → (∀ i, 0 ≤ i → i < P 2 16 → gI M' (129 + r.toNat) i = rk P F T nT r i) → K M') : k5_learnOrder r M K := by
  obtain ⟨-, -, ⟨m0, m1, -⟩, hst, -⟩ := hW.x
  have h60 := hW.le
  apply k5_learnOrder_r
  refine ⟨hr, ?_⟩
  have keep : ∀ M2, Fr (fun a _ => a == 129 + r.toNat) M M2 → Sm P M2 ∧ (∀ s, isSt P s → gI M2 (121 + r.toNat) s = sA P F T nT r s ∧ gI M2 (125 + r.toNat) s = sB P F T nT r s) := by
    intro M2 f
    refine ⟨f.sm hS (fun a i a1 a2 => by simp; omega), fun s z => ?_⟩
    rw [f.g (by simp <;> omega), f.g (by simp <;> omega)]; exact hs s z
  refine upto (n := P 2 16) (I := fun i M2 => Fr (fun a _ => a == 129 + r.toNat) M M2 ∧ (∀ j, 0 ≤ j → j < i → gI M2 (129 + r.toNat) j = ord (mrr P F T nT r) (P 14) i.toNat j)) (Q := fun i M2 => k5_learnOrder_9 r i M2 K) ?_ ?_ 0 M (by decide) m0 ⟨Fr.rf, fun j j0 j1 => by omega⟩
  · intro M2 ⟨f, hj⟩
    apply k5_learnOrder_9_r
    rw [(keep M2 f).1 2 (by decide) (by decide), if_neg (by omega)]
    exact hq M2 f hj
  · intro i M2 i0 i1 ⟨f, hj⟩ ih
    obtain ⟨s2, -⟩ := keep M2 f
    apply k5_learnOrder_9_r
    rw [s2 2 (by decide) (by decide), if_pos i1, s2 14 (by decide) (by decide)]
    refine ⟨⟨i0, by omega⟩, ?_⟩
    have hx := (hst i i0 i1).1
    have inner : ∀ (k : Nat) (M3 : pm_M), (k : Int) ≤ i → Fr (fun a _ => a == 129 + r.toNat) M M3 → (∀ j, 0 ≤ j → j < (k : Int) → gI M3 (129 + r.toNat) j = ord (mrr P F T nT r) (P 14) i.toNat j) → (∀ j, (k : Int) < j → j ≤ i → gI M3 (129 + r.toNat) j = ord (mrr P F T nT r) (P 14) i.toNat (j - 1)) → plc (mrr P F T nT r) (ord (mrr P F T nT r) (P 14) i.toNat) (P 14 i) i.toNat = plc (mrr P F T nT r) (ord (mrr P F T nT r) (P 14) i.toNat) (P 14 i) k → k5_learnOrder_37 r i (P 14 i) (k : Int) (k : Int) M3 K := by
      intro k
      have done : ∀ (k : Nat) (M3 : pm_M), (k : Int) ≤ i → Fr (fun a _ => a == 129 + r.toNat) M M3 → (∀ j, 0 ≤ j → j < (k : Int) → gI M3 (129 + r.toNat) j = ord (mrr P F T nT r) (P 14) i.toNat j) → (∀ j, (k : Int) < j → j ≤ i → gI M3 (129 + r.toNat) j = ord (mrr P F T nT r) (P 14) i.toNat (j - 1)) → plc (mrr P F T nT r) (ord (mrr P F T nT r) (P 14) i.toNat) (P 14 i) i.toNat = k → k5_learnOrder_9 r (i + 1) (upI M3 (129 + r.toNat) (k : Int) (P 14 i)) K := by
        intro k M3 ki f3 q1 q2 q3
        have ei : ((i.toNat : Nat) : Int) = i := Int.toNat_of_nonneg i0
        refine ih _ ⟨f3.up _ (by simp), fun j j0 j1 => ?_⟩
        rw [show (i + 1).toNat = i.toNat + 1 by omega]
        refine ord_step (g := fun j => gI (upI M3 (129 + r.toNat) (k : Int) (P 14 i)) (129 + r.toNat) j) (k := k) (by omega) (by rw [ei]; exact q3) ?_ ?_ ?_ j j0 (by omega)
        · intro u u0 u1
          show gI (upI M3 (129 + r.toNat) (k : Int) (P 14 i)) (129 + r.toNat) u = _
          rw [gI_up _ _ (by omega) u0, if_neg (by omega)]; exact q1 u u0 u1
        · intro u u0 u1
          show gI (upI M3 (129 + r.toNat) (k : Int) (P 14 i)) (129 + r.toNat) u = _
          rw [gI_up _ _ (by omega) (by omega), if_neg (by omega)]; exact q2 u u0 (by omega)
        · show gI (upI M3 (129 + r.toNat) (k : Int) (P 14 i)) (129 + r.toNat) (k : Int) = _
          rw [gI_eq, ei]
      induction k with
      | zero =>
        intro M3 ki f3 q1 q2 q3
        apply k5_learnOrder_37_r
        rw [if_pos (by decide), w32_id (show -2147483648 ≤ i + 1 ∧ i + 1 < 2147483648 by omega)]
        exact ⟨hr, by decide, done 0 M3 ki f3 q1 q2 q3⟩
      | succ k ihk =>
        intro M3 ki f3 q1 q2 q3
        apply k5_learnOrder_37_r
        have w1 : w32 (((k + 1 : Nat) : Int) - 1) = (k : Int) := by rw [w32_id (by omega)]; omega
        have w2 : w32 (((k + 1 : Nat) : Int) + (-1)) = (k : Int) := by rw [w32_id (by omega)]; omega
        rw [if_neg (by omega), w32_id (show -2147483648 ≤ i + 1 ∧ i + 1 < 2147483648 by omega), w1, w2]
        refine ⟨hr, ⟨by omega, by omega⟩, ?_⟩
        rw [q1 k (by omega) (by omega)]
        obtain ⟨i', i0', i1', ey⟩ := ord_mem (mr := mrr P F T nT r) (st := P 14) i.toNat (k : Int) (by omega) (by omega)
        have hy : isSt P (ord (mrr P F T nT r) (P 14) i.toNat (k : Int)) := by rw [ey]; exact (hst i' i0' (by omega)).1
        have hp : plc (mrr P F T nT r) (ord (mrr P F T nT r) (P 14) i.toNat) (P 14 i) (k + 1) = if mrr P F T nT r (P 14 i) (ord (mrr P F T nT r) (P 14) i.toNat (k : Int)) = true then plc (mrr P F T nT r) (ord (mrr P F T nT r) (P 14) i.toNat) (P 14 i) k else k + 1 := rfl
        apply k5_scoresMore_r
        have x1 := hx.1
        have x2 := hx.2.1
        have y1 := hy.1
        have y2 := hy.2.1
        refine ⟨hr, ⟨by omega, by omega⟩, ⟨by omega, by omega⟩, ?_⟩
        obtain ⟨s3, k3⟩ := keep M3 f3
        rw [(k3 _ hx).1, (k3 _ hx).2, (k3 _ hy).1, (k3 _ hy).2]
        by_cases hm : w32 (sA P F T nT r (P 14 i) * sB P F T nT r (ord (mrr P F T nT r) (P 14) i.toNat (k : Int))) ≤ w32 (sA P F T nT r (ord (mrr P F T nT r) (P 14) i.toNat (k : Int)) * sB P F T nT r (P 14 i))
        · rw [if_pos hm, if_pos rfl]
          rw [if_neg (mrr_f hm)] at hp
          exact ⟨⟨by omega, by omega⟩, done (k + 1) M3 ki f3 q1 q2 (q3.trans hp)⟩
        · rw [if_neg hm, if_neg (by decide)]
          rw [if_pos (mrr_t hm)] at hp
          refine ⟨⟨by omega, by omega⟩, ?_⟩
          rw [q1 k (by omega) (by omega)]
          refine ihk _ (by omega) (f3.up _ (by simp)) ?_ ?_ (q3.trans hp)
          · intro j j0 j1; rw [gI_up _ _ (by omega) j0, if_neg (by omega)]; exact q1 j j0 (by omega)
          · intro j j0 j1
            rw [gI_up _ _ (by omega) (by omega)]
            by_cases e : j = ((k + 1 : Nat) : Int)
            · rw [if_pos e, e]; congr 1; omega
            · rw [if_neg e]; exact q2 j (by omega) j1
    have h0 := inner i.toNat M2 (by omega) f (fun j j0 j1 => hj j j0 (by omega)) (fun j j0 j1 => by omega) rfl
    rw [Int.toNat_of_nonneg i0] at h0
    exact h0
/-- what the class knows of the ranks -/
def RNs (P : Pg) (F : Fo) (T : Ts) (nT : Int) (M : pm_M) : Prop := (∀ s, isSt P s → gI M 118 s = nD P F T nT 0 s ∧ gI M 119 s = nD P F T nT 1 s ∧ ∀ r, 0 ≤ r → r < 3 → gI M (121 + r.toNat) s = sA P F T nT r s ∧ gI M (125 + r.toNat) s = sB P F T nT r s) ∧ ∀ r i, 0 ≤ r → r < 3 → 0 ≤ i → i < P 2 16 → gI M (129 + r.toNat) i = rk P F T nT r i
def pRank (a _i : Nat) : Bool := a == 118 || a == 119 || (121 ≤ a && a ≤ 123) || (125 ≤ a && a ≤ 127) || (129 ≤ a && a ≤ 131)
theorem klearn_r {P : Pg} {F : Fo} {T : Ts} {nT : Int} (hW : WF P) {M : pm_M} {K : pm_M → Prop} (hS : Sm P M) (hT : CT T nT M) (hk : RKs P F T nT M)
    (hq : ∀ M', Fr pRank M M' → RNs P F T nT M' → K M') : k5_learn M K := by
  obtain ⟨-, -, ⟨m0, m1, -⟩, hst, -⟩ := hW.x
  have h60 := hW.le
  have hnT := hT.2.1
  apply k5_learn_r
  have keep : ∀ M2, Fr pRank M M2 → Sm P M2 ∧ CT T nT M2 ∧ RKs P F T nT M2 := by
    intro M2 f
    refine ⟨f.sm hS (fun a i a1 a2 => by simp [pRank]; omega), ⟨by rw [f.g rfl]; exact hT.1, hnT, fun t j t0 t1 j0 j1 => ?_⟩, ?_, ?_⟩
    · rw [f.g (by simp [pRank]; omega)]; exact hT.2.2 t j t0 t1 j0 j1
    · rw [f.g rfl, f.g rfl, f.g rfl]; exact hk.1
    · intro z
      obtain ⟨k1, k2⟩ := hk.2 z
      refine ⟨fun t t0 t1 => (k1 t t0 t1).fr f (fun a a1 a2 => by simp [pRank]; omega) (fun i => by simp [pRank]; omega) (fun i => by simp [pRank]; omega), ?_⟩
      unfold RC
      rw [f.g rfl, f.g rfl, f.g rfl, f.g rfl]; exact k2
  -- the orders
  have orders : ∀ M2, Fr pRank M M2 → (∀ s, isSt P s → gI M2 118 s = nD P F T nT 0 s ∧ gI M2 119 s = nD P F T nT 1 s ∧ ∀ r, 0 ≤ r → r < 3 → gI M2 (121 + r.toNat) s = sA P F T nT r s ∧ gI M2 (125 + r.toNat) s = sB P F T nT r s) → k5_learn_66 0 M2 K := by
    intro M2 f h2
    refine upto (n := 3) (I := fun r M3 => Fr pRank M M3 ∧ (∀ s, isSt P s → gI M3 118 s = nD P F T nT 0 s ∧ gI M3 119 s = nD P F T nT 1 s ∧ ∀ r, 0 ≤ r → r < 3 → gI M3 (121 + r.toNat) s = sA P F T nT r s ∧ gI M3 (125 + r.toNat) s = sB P F T nT r s) ∧ ∀ r' i, 0 ≤ r' → r' < r → 0 ≤ i → i < P 2 16 → gI M3 (129 + r'.toNat) i = rk P F T nT r' i) (Q := fun r M3 => k5_learn_66 r M3 K) ?_ ?_ 0 M2 (by decide) (by decide) ⟨f, h2, fun r' i q0 q1 => by omega⟩
    · intro M3 ⟨f3, h3, o3⟩
      apply k5_learn_66_r
      rw [if_neg (by decide)]
      exact hq M3 f3 ⟨h3, o3⟩
    · intro r M3 r0 r1 ⟨f3, h3, o3⟩ ih
      apply k5_learn_66_r
      rw [if_pos r1, w32_id (show -2147483648 ≤ r + 1 ∧ r + 1 < 2147483648 by omega)]
      refine learnOrder_r hW ⟨r0, r1⟩ (keep M3 f3).1 (fun s hs => (h3 s hs).2.2 r r0 r1) (fun M4 f4 o4 => ih M4 ⟨f3.trans (f4.mono (fun a i h => by simp [pRank] at h ⊢; omega)), fun s hs => ?_, fun r' i q0 q1 i0 i1 => ?_⟩)
      · obtain ⟨a1, a2, a3⟩ := h3 s hs
        refine ⟨by rw [f4.g (by simp; omega)]; exact a1, by rw [f4.g (by simp; omega)]; exact a2, fun r' q0 q1 => ?_⟩
        rw [f4.g (by simp; omega), f4.g (by simp; omega)]; exact a3 r' q0 q1
      · by_cases e : r' = r
        · subst e; exact o4 i i0 i1
        · rw [f4.g (by simp; omega)]; exact o3 r' i q0 (by omega) i0 i1
  refine upto (n := P 2 16) (I := fun i M2 => Fr pRank M M2 ∧ ∀ s, isSt P s → P 23 s < i → gI M2 118 s = nD P F T nT 0 s ∧ gI M2 119 s = nD P F T nT 1 s ∧ ∀ r, 0 ≤ r → r < 3 → gI M2 (121 + r.toNat) s = sA P F T nT r s ∧ gI M2 (125 + r.toNat) s = sB P F T nT r s) (Q := fun i M2 => k5_learn_2 i M2 K) ?_ ?_ 0 M (by decide) m0 ⟨Fr.rf, fun s hs h => by have := (hW.t.1 s hs).2.2.2.1; omega⟩
  · intro M2 ⟨f, h2⟩
    apply k5_learn_2_r
    rw [(keep M2 f).1 2 (by decide) (by decide), if_neg (by omega)]
    refine orders M2 f (fun s hs => h2 s hs ?_)
    obtain ⟨-, -, ⟨-, -, q⟩, -, -⟩ := hW.x
    exact (q s hs).1
  · intro i M2 i0 i1 ⟨f, h2⟩ ih
    obtain ⟨s2, t2, k2⟩ := keep M2 f
    obtain ⟨hs, hrk⟩ := hst i i0 i1
    have hs0 := hs.1
    have hs1 := hs.2.1
    have hz : ¬ P 2 15 = 0 := by omega
    apply k5_learn_2_r
    rw [s2 2 (by decide) (by decide), if_pos i1, s2 14 (by decide) (by decide), w32_id (show -2147483648 ≤ i + 1 ∧ i + 1 < 2147483648 by omega)]
    refine ⟨⟨i0, by omega⟩, ?_⟩
    refine shownThatDo_r ⟨hs0, by omega⟩ t2 (k2.2 hz).1 ?_
    refine ⟨⟨hs0, by omega⟩, ?_⟩
    have f3 : Fr pRank M (upI M2 118 (P 14 i) (nD P F T nT 0 (P 14 i))) := f.up _ rfl
    obtain ⟨s3, t3, k3⟩ := keep _ f3
    refine shownThatDo_r ⟨hs0, by omega⟩ t3 (k3.2 hz).1 ?_
    have f4 : Fr pRank M (upI (upI M2 118 (P 14 i) (nD P F T nT 0 (P 14 i))) 119 (P 14 i) (nD P F T nT 1 (P 14 i))) := f3.up _ rfl
    obtain ⟨s4, t4, k4⟩ := keep _ f4
    have hrc := (k4.2 hz).2
    refine learnScores_r ⟨hs0, by omega⟩ (by rw [gI_ne _ _ _ _ (by decide), gI_eq]) (by rw [gI_eq]) hrc.2.1 hrc.1 (nums hnT _) (fun M5 f5 h5 => ih M5 ⟨f4.trans (f5.mono (fun a i h => by simp [pSc, pRank] at h ⊢; omega)), fun s' hs' h' => ?_⟩)
    have n0 := hs'.1
    by_cases e : s' = P 14 i
    · subst e
      refine ⟨?_, ?_, fun r r0 r1 => h5 r r0 r1⟩
      · rw [f5.g (by simp [pSc]), gI_ne _ _ _ _ (by decide), gI_eq]
      · rw [f5.g (by simp [pSc]), gI_eq]
    · have hlt : P 23 s' < i := by
        obtain ⟨-, -, ⟨-, -, q⟩, -, -⟩ := hW.x
        have q1 := (q s' hs').2
        by_cases w : P 23 s' = i
        · rw [w] at q1; exact absurd q1.symm e
        · omega
      obtain ⟨a1, a2, a3⟩ := h2 s' hs' hlt
      refine ⟨?_, ?_, fun r r0 r1 => ?_⟩
      · rw [f5.g (by simp [pSc]), gI_ne _ _ _ _ (by decide), gI_nf _ _ (by omega)]; exact a1
      · rw [f5.g (by simp [pSc]), gI_nf _ _ (by omega), gI_ne _ _ _ _ (by decide)]; exact a2
      · rw [f5.g (by simp [pSc]; omega), f5.g (by simp [pSc]; omega), gI_ne _ _ _ _ (by omega), gI_ne _ _ _ _ (by omega), gI_ne _ _ _ _ (by omega), gI_ne _ _ _ _ (by omega)]; exact a3 r r0 r1

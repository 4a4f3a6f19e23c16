-- needs 30 31 32 33a 33b 33c 33d 33e 33f 33g 33h 33i 33j 40 41 42 43 44 45 46 50 51 52 53 54
/-! tokens: of numbers alone; the class's scanner -/
def ub (L : Int → Int) (i : Int) : Int := pm_iand (L i) 255
theorem ub_s {b : Int} (h : -128 ≤ b ∧ b ≤ 127) : (0 ≤ b ∧ pm_iand b 255 = b) ∨ (b < 0 ∧ pm_iand b 255 = b + 256) := by
  obtain ⟨k, hk⟩ : ∃ k : Nat, b = (k : Int) - 128 := ⟨(b + 128).toNat, by omega⟩
  have hk2 : k < 256 := by omega
  subst hk
  have key : ∀ k : Nat, k < 256 → (0 ≤ (k : Int) - 128 ∧ pm_iand ((k : Int) - 128) 255 = (k : Int) - 128) ∨ ((k : Int) - 128 < 0 ∧ pm_iand ((k : Int) - 128) 255 = (k : Int) - 128 + 256) := by decide +kernel
  exact key k hk2
def skf (u : Int → Int) (N : Int) : Nat → Int → Int
  | 0, p => p
  | f + 1, p => if p < N ∧ (u p = 32 ∨ u p = 10) then skf u N f (p + 1) else p
def sk (u : Int → Int) (N p : Int) : Int := skf u N (N - p).toNat p
theorem sk_yes {u : Int → Int} {N p : Int} (h : p < N) (h2 : u p = 32 ∨ u p = 10) : sk u N p = sk u N (p + 1) := by
  unfold sk
  rw [show (N - p).toNat = (N - (p + 1)).toNat + 1 by omega]
  show (if p < N ∧ (u p = 32 ∨ u p = 10) then skf u N (N - (p + 1)).toNat (p + 1) else p) = _
  rw [if_pos ⟨h, h2⟩]
theorem sk_no {u : Int → Int} {N p : Int} (h : ¬ (p < N ∧ (u p = 32 ∨ u p = 10))) : sk u N p = p := by
  unfold sk
  cases (N - p).toNat with
  | zero => rfl
  | succ f =>
    show (if p < N ∧ (u p = 32 ∨ u p = 10) then skf u N f (p + 1) else p) = _
    rw [if_neg h]
def wxf (u : Int → Int) (N : Int) : Nat → Int → Int
  | 0, p => p
  | f + 1, p => if p < N ∧ (97 ≤ u p ∧ u p ≤ 122) then wxf u N f (p + 1) else p
def wx (u : Int → Int) (N p : Int) : Int := wxf u N (N - p).toNat p
theorem wx_yes {u : Int → Int} {N p : Int} (h : p < N) (h2 : 97 ≤ u p ∧ u p ≤ 122) : wx u N p = wx u N (p + 1) := by
  unfold wx
  rw [show (N - p).toNat = (N - (p + 1)).toNat + 1 by omega]
  show (if p < N ∧ (97 ≤ u p ∧ u p ≤ 122) then wxf u N (N - (p + 1)).toNat (p + 1) else p) = _
  rw [if_pos ⟨h, h2⟩]
theorem wx_no {u : Int → Int} {N p : Int} (h : ¬ (p < N ∧ (97 ≤ u p ∧ u p ≤ 122))) : wx u N p = p := by
  unfold wx
  cases (N - p).toNat with
  | zero => rfl
  | succ f =>
    show (if p < N ∧ (97 ≤ u p ∧ u p ≤ 122) then wxf u N f (p + 1) else p) = _
    rw [if_neg h]
/-- the digits from a place on: what they come to, where they end -/
def nvf (u : Int → Int) (N p0 : Int) : Nat → Int → Int → Int × Int
  | 0, p, v => (v, p)
  | f + 1, p, v => if p < N ∧ (48 ≤ u p ∧ u p ≤ 57) then nvf u N p0 f (p + 1) (if p - p0 < 3 then 10 * v + u p - 48 else v) else (v, p)
def nv (u : Int → Int) (N p0 p v : Int) : Int × Int := nvf u N p0 (N - p).toNat p v
theorem nv_yes {u : Int → Int} {N p0 p v : Int} (h : p < N) (h2 : 48 ≤ u p ∧ u p ≤ 57) : nv u N p0 p v = nv u N p0 (p + 1) (if p - p0 < 3 then 10 * v + u p - 48 else v) := by
  unfold nv
  rw [show (N - p).toNat = (N - (p + 1)).toNat + 1 by omega]
  show (if p < N ∧ (48 ≤ u p ∧ u p ≤ 57) then nvf u N p0 (N - (p + 1)).toNat (p + 1) (if p - p0 < 3 then 10 * v + u p - 48 else v) else (v, p)) = _
  rw [if_pos ⟨h, h2⟩]
theorem nv_no {u : Int → Int} {N p0 p v : Int} (h : ¬ (p < N ∧ (48 ≤ u p ∧ u p ≤ 57))) : nv u N p0 p v = (v, p) := by
  unfold nv
  cases (N - p).toNat with
  | zero => rfl
  | succ f =>
    show (if p < N ∧ (48 ≤ u p ∧ u p ≤ 57) then nvf u N p0 f (p + 1) (if p - p0 < 3 then 10 * v + u p - 48 else v) else (v, p)) = _
    rw [if_neg h]
def sbe (c : Int) : Int := if c = 33 then 8 else if c = 60 then 6 else if c = 61 then 7 else if c = 62 then 10 else -1
def sal (c : Int) : Int := if c = 60 then 5 else if c = 62 then 9 else if c = 43 then 0 else if c = 45 then 1 else if c = 42 then 2 else if c = 47 then 3 else if c = 37 then 4 else -1
def isM (c : Int) : Prop := c = 61 ∨ c = 40 ∨ c = 41 ∨ c = 123 ∨ c = 125 ∨ c = 59
/-- a sign's token: its kind, what it is, where it ends -/
def tsg (u : Int → Int) (N p : Int) : Int × Int × Int :=
  if p + 1 < N ∧ u (p + 1) = 61 ∧ ¬ sbe (u p) = -1 then (4, sbe (u p), p + 2) else if ¬ sal (u p) = -1 then (4, sal (u p), p + 1) else if u p = 61 ∨ u p = 40 ∨ u p = 41 ∨ u p = 123 ∨ u p = 125 ∨ u p = 59 then (5, u p, p + 1) else (1, u p, p + 1)
def tok (u : Int → Int) (N p : Int) : Int × Int × Int :=
  if N ≤ p then (0, 0, p) else if 97 ≤ u p ∧ u p ≤ 122 then (2, 0, wx u N p) else if 48 ≤ u p ∧ u p ≤ 57 then (if (nv u N p p 0).2 - p ≤ 3 then 3 else 1, (nv u N p p 0).1, (nv u N p p 0).2) else tsg u N p
/-- next, place, kind, value, fault -/
abbrev Sc : Type := Int × Int × Int × Int × Int
def adv (u : Int → Int) (N : Int) (s : Sc) : Sc := if s.2.2.2.2 = 0 then ((tok u N (sk u N s.1)).2.2, sk u N s.1, (tok u N (sk u N s.1)).1, (tok u N (sk u N s.1)).2.1, if (tok u N (sk u N s.1)).1 = 1 then 8 * sk u N s.1 + 1 else 0) else s
def Hs (s : Sc) (M : pm_M) : Prop := gI M 70 2 = s.1 ∧ gI M 70 3 = s.2.1 ∧ gI M 70 4 = s.2.2.1 ∧ gI M 70 5 = s.2.2.2.1 ∧ gI M 70 6 = s.2.2.2.2
def TpC (L : Int → Int) (N : Int) (M : pm_M) : Prop := gI M 70 1 = N ∧ (0 ≤ N ∧ N ≤ 600) ∧ ∀ i, 0 ≤ i → i < 600 → gI M 1 i = L i ∧ -128 ≤ L i ∧ L i ≤ 127
def p7 (a i : Nat) : Bool := a == 70 && (2 ≤ i && i ≤ 6)
theorem TpC.fr {L : Int → Int} {N : Int} {M M' : pm_M} {p : Nat → Nat → Bool} (h : TpC L N M) (f : Fr p M M') (h0 : p 70 1 = false) (h1 : ∀ i, p 1 i = false) : TpC L N M' := ⟨by rw [f.g h0]; exact h.1, h.2.1, fun i i0 i1 => by rw [f.g (h1 _)]; exact h.2.2 i i0 i1⟩
/-- the first place of a number in a row -/
theorem idx_r {tx x n : Int} {M : pm_M} {K : Int → pm_M → Prop} (htx : 0 ≤ tx ∧ tx < 10) (hn : n = ((pm_txt tx.toNat).length : Int)) (h100 : n < 100) : ∀ (d : Nat) (i : Int), i + d = n → 0 ≤ i → (∀ j, i ≤ j → j < n → (pm_txt tx.toNat).getD j.toNat 0 = x → (∀ k, i ≤ k → k < j → ¬ (pm_txt tx.toNat).getD k.toNat 0 = x) → K j M) → ((∀ k, i ≤ k → k < n → ¬ (pm_txt tx.toNat).getD k.toNat 0 = x) → K (-1) M) → kJ1_indexOfChar_4cfef_7 tx n x i M K := by
  intro d
  induction d with
  | zero =>
    intro i hi i0 h1 h0
    apply kJ1_indexOfChar_4cfef_7_r htx
    rw [if_neg (by omega)]
    exact h0 (fun k a b => by omega)
  | succ d ih =>
    intro i hi i0 h1 h0
    apply kJ1_indexOfChar_4cfef_7_r htx
    rw [if_pos (by omega), w32_id (show -2147483648 ≤ i + 1 ∧ i + 1 < 2147483648 by omega)]
    refine ⟨⟨i0, by omega⟩, ?_⟩
    by_cases e : (pm_txt tx.toNat).getD i.toNat 0 = x
    · rw [if_pos e]; exact h1 i (Int.le_refl _) (by omega) e (fun k a b => by omega)
    · rw [if_neg e]
      refine ih (i + 1) (by omega) (by omega) (fun j a b c d' => h1 j (by omega) b c (fun k ka kb => ?_)) (fun c => h0 (fun k ka kb => ?_))
      · by_cases w : k = i
        · subst w; exact e
        · exact d' k (by omega) kb
      · by_cases w : k = i
        · subst w; exact e
        · exact c k (by omega) kb
/-- where a char stands in a text; -1 -/
def ixs (tx : Nat) (c : Int) : Int := if w8 c ∈ pm_txt tx then ((pm_txt tx).findIdx (fun y => y == w8 c) : Nat) else -1
def ixl (l : List Int) (x : Int) : Nat → Int → Int
  | 0, _ => -1
  | d + 1, i => if l.getD i.toNat 0 = x then i else ixl l x d (i + 1)
theorem ixl_r {tx x n : Int} {M : pm_M} {K : Int → pm_M → Prop} (htx : 0 ≤ tx ∧ tx < 10) (hn : n = ((pm_txt tx.toNat).length : Int)) (h100 : n < 100) : ∀ (d : Nat) (i : Int), i + d = n → 0 ≤ i → K (ixl (pm_txt tx.toNat) x d i) M → kJ1_indexOfChar_4cfef_7 tx n x i M K := by
  intro d
  induction d with
  | zero =>
    intro i hi i0 hK
    apply kJ1_indexOfChar_4cfef_7_r htx
    rw [if_neg (by omega)]
    exact hK
  | succ d ih =>
    intro i hi i0 hK
    apply kJ1_indexOfChar_4cfef_7_r htx
    rw [if_pos (by omega), w32_id (show -2147483648 ≤ i + 1 ∧ i + 1 < 2147483648 by omega)]
    refine ⟨⟨i0, by omega⟩, ?_⟩
    have hK' : K (if (pm_txt tx.toNat).getD i.toNat 0 = x then i else ixl (pm_txt tx.toNat) x d (i + 1)) M := hK
    by_cases e : (pm_txt tx.toNat).getD i.toNat 0 = x
    · rw [if_pos e] at hK' ⊢; exact hK'
    · rw [if_neg e] at hK' ⊢; exact ih (i + 1) (by omega) (by omega) hK'
theorem indexOf_r {tx c : Int} {M : pm_M} {K : Int → pm_M → Prop} (htx : tx = 0 ∨ tx = 1 ∨ tx = 2) (hc : 0 ≤ c ∧ c ≤ 255) (hK : K (ixl (pm_txt tx.toNat) (w8 c) (pm_txt tx.toNat).length 0) M) : kJ0_indexOf_0f7a4 tx c M K := by
  have h10 : 0 ≤ tx ∧ tx < 10 := by omega
  have hlen : (0 : Int) < ((pm_txt tx.toNat).length : Int) ∧ ((pm_txt tx.toNat).length : Int) < 100 ∧ pm_ishr ((pm_txt tx.toNat).length : Int) 0 = ((pm_txt tx.toNat).length : Int) := by
    rcases htx with rfl | rfl | rfl <;> decide +kernel
  apply kJ0_indexOf_0f7a4_r h10
  apply kJ0_indexOf_7cf53_r h10
  apply kJ1_indexOf_4cfef_r h10
  rw [if_neg (by omega), if_pos hc.2, hlen.2.2]
  rw [if_neg (Int.lt_irrefl _), if_neg (Int.lt_irrefl _), if_pos hlen.1]
  apply kJ1_indexOfChar_4cfef_r h10
  exact ixl_r h10 rfl hlen.2.1 _ 0 (by omega) (by decide) hK
theorem ix0 {c : Int} (hc : 0 ≤ c ∧ c ≤ 255) : ixl (pm_txt 0) (w8 c) (pm_txt 0).length 0 = (if c = 43 then 0 else if c = 45 then 1 else if c = 42 then 2 else if c = 47 then 3 else if c = 37 then 4 else -1) := by
  obtain ⟨k, rfl⟩ : ∃ k : Nat, c = (k : Int) := ⟨c.toNat, by omega⟩
  have hk : k < 256 := by omega
  have key : ∀ k : Nat, k < 256 → ixl (pm_txt 0) (w8 (k : Int)) (pm_txt 0).length 0 = (if (k : Int) = 43 then 0 else if (k : Int) = 45 then 1 else if (k : Int) = 42 then 2 else if (k : Int) = 47 then 3 else if (k : Int) = 37 then 4 else -1) := by decide +kernel
  exact key k hk
theorem ix1 {c : Int} (hc : 0 ≤ c ∧ c ≤ 255) : ixl (pm_txt 1) (w8 c) (pm_txt 1).length 0 < 0 ↔ ¬ (c = 61 ∨ c = 40 ∨ c = 41 ∨ c = 123 ∨ c = 125 ∨ c = 59) := by
  obtain ⟨k, rfl⟩ : ∃ k : Nat, c = (k : Int) := ⟨c.toNat, by omega⟩
  have hk : k < 256 := by omega
  have key : ∀ k : Nat, k < 256 → (ixl (pm_txt 1) (w8 (k : Int)) (pm_txt 1).length 0 < 0 ↔ ¬ ((k : Int) = 61 ∨ (k : Int) = 40 ∨ (k : Int) = 41 ∨ (k : Int) = 123 ∨ (k : Int) = 125 ∨ (k : Int) = 59)) := by decide +kernel
  exact key k hk
/-- the variable of a char -/
def vch (c : Int) : Int := if 120 ≤ c ∧ c ≤ 122 then c - 120 else if 97 ≤ c ∧ c ≤ 102 then 3 + c - 97 else -1
theorem ix2 {c : Int} (hc : 0 ≤ c ∧ c ≤ 255) : ixl (pm_txt 2) (w8 c) (pm_txt 2).length 0 = vch c := by
  obtain ⟨k, rfl⟩ : ∃ k : Nat, c = (k : Int) := ⟨c.toNat, by omega⟩
  have hk : k < 256 := by omega
  have key : ∀ k : Nat, k < 256 → ixl (pm_txt 2) (w8 (k : Int)) (pm_txt 2).length 0 = vch (k : Int) := by decide +kernel
  exact key k hk
theorem signAlone_r {c : Int} {M : pm_M} {K : Int → pm_M → Prop} (hc : 0 ≤ c ∧ c ≤ 255) (hK : K (sal c) M) : k7_signAlone c M K := by
  apply k7_signAlone_r
  unfold sal at hK
  by_cases a : c = 60
  · rw [if_pos a] at hK ⊢; exact hK
  rw [if_neg a] at hK ⊢
  by_cases b : c = 62
  · rw [if_pos b] at hK ⊢; exact hK
  rw [if_neg b] at hK ⊢
  rw [show c % 65536 = c by omega]
  refine indexOf_r (Or.inl rfl) hc ?_
  rw [show ((0 : Int).toNat) = 0 from rfl, ix0 hc]
  exact hK
theorem signBefore_r {c : Int} {M : pm_M} {K : Int → pm_M → Prop} (hK : K (sbe c) M) : k7_signBeforeEqual c M K := by
  apply k7_signBeforeEqual_r
  unfold sbe at hK
  by_cases a : c = 33
  · rw [if_pos a] at hK ⊢; exact hK
  rw [if_neg a] at hK ⊢
  by_cases a : c = 60
  · rw [if_pos a] at hK ⊢; exact hK
  rw [if_neg a] at hK ⊢
  by_cases a : c = 61
  · rw [if_pos a] at hK ⊢; exact hK
  rw [if_neg a] at hK ⊢
  by_cases a : c = 62
  · rw [if_pos a] at hK ⊢; exact hK
  rw [if_neg a] at hK ⊢; exact hK
theorem sk_rng {u : Int → Int} {N : Int} : ∀ (d : Nat) (p : Int), (N - p).toNat ≤ d → 0 ≤ p → p ≤ N → p ≤ sk u N p ∧ sk u N p ≤ N ∧ ¬ (sk u N p < N ∧ (u (sk u N p) = 32 ∨ u (sk u N p) = 10)) := by
  intro d
  induction d with
  | zero => intro p hd p0 pN; rw [sk_no (by omega)]; exact ⟨by omega, pN, by omega⟩
  | succ d ih =>
    intro p hd p0 pN
    by_cases h : p < N ∧ (u p = 32 ∨ u p = 10)
    · rw [sk_yes h.1 h.2]
      have := ih (p + 1) (by omega) (by omega) (by omega)
      exact ⟨by omega, this.2⟩
    · rw [sk_no h]; exact ⟨by omega, pN, h⟩
theorem wx_rng {u : Int → Int} {N : Int} : ∀ (d : Nat) (p : Int), (N - p).toNat ≤ d → 0 ≤ p → p ≤ N → p ≤ wx u N p ∧ wx u N p ≤ N ∧ ∀ k, p ≤ k → k < wx u N p → 97 ≤ u k ∧ u k ≤ 122 := by
  intro d
  induction d with
  | zero => intro p hd p0 pN; rw [wx_no (by omega)]; exact ⟨by omega, pN, fun k a b => by omega⟩
  | succ d ih =>
    intro p hd p0 pN
    by_cases h : p < N ∧ (97 ≤ u p ∧ u p ≤ 122)
    · rw [wx_yes h.1 h.2]
      obtain ⟨a, b, c⟩ := ih (p + 1) (by omega) (by omega) (by omega)
      refine ⟨by omega, b, fun k ka kb => ?_⟩
      by_cases w : k = p
      · subst w; exact h.2
      · exact c k (by omega) kb
    · rw [wx_no h]; exact ⟨by omega, pN, fun k a b => by omega⟩
theorem nv_rng {u : Int → Int} {N p0 : Int} : ∀ (d : Nat) (p v : Int), (N - p).toNat ≤ d → 0 ≤ p0 → p0 ≤ p → p ≤ N → 0 ≤ v → v < (if p - p0 = 0 then 1 else if p - p0 = 1 then 10 else if p - p0 = 2 then 100 else 1000) → p ≤ (nv u N p0 p v).2 ∧ (nv u N p0 p v).2 ≤ N ∧ 0 ≤ (nv u N p0 p v).1 ∧ (nv u N p0 p v).1 ≤ 999 := by
  intro d
  induction d with
  | zero =>
    intro p v hd q0 q1 pN v0 v1
    rw [nv_no (by omega)]
    refine ⟨Int.le_refl _, pN, v0, ?_⟩
    show v ≤ 999
    split at v1
    · omega
    · split at v1
      · omega
      · split at v1 <;> omega
  | succ d ih =>
    intro p v hd q0 q1 pN v0 v1
    by_cases h : p < N ∧ (48 ≤ u p ∧ u p ≤ 57)
    · rw [nv_yes h.1 h.2]
      have h2 := h.2
      have := ih (p + 1) (if p - p0 < 3 then 10 * v + u p - 48 else v) (by omega) q0 (by omega) (by omega) (by split <;> omega) (by
        by_cases e0 : p - p0 = 0
        · rw [if_pos e0] at v1; rw [if_pos (by omega), if_neg (by omega), if_pos (by omega)]; omega
        rw [if_neg e0] at v1
        by_cases e1 : p - p0 = 1
        · rw [if_pos e1] at v1; rw [if_pos (by omega), if_neg (by omega), if_neg (by omega), if_pos (by omega)]; omega
        rw [if_neg e1] at v1
        by_cases e2 : p - p0 = 2
        · rw [if_pos e2] at v1; rw [if_pos (by omega), if_neg (by omega), if_neg (by omega), if_neg (by omega)]; omega
        rw [if_neg e2] at v1
        rw [if_neg (by omega), if_neg (by omega), if_neg (by omega), if_neg (by omega)]; omega)
      exact ⟨by omega, this.2⟩
    · rw [nv_no h]
      refine ⟨Int.le_refl _, pN, v0, ?_⟩
      show v ≤ 999
      split at v1
      · omega
      · split at v1
        · omega
        · split at v1 <;> omega

/-! the words and statements as they are read -/
theorem txt_ok {tx : Int} (h : 3 ≤ tx ∧ tx ≤ 9) : (pm_ishr ((pm_txt tx.toNat).length : Int) 0 = ((pm_txt tx.toNat).length : Int) ∧ (pm_txt tx.toNat).length ≤ 6) ∧ ∀ i : Nat, i < (pm_txt tx.toNat).length → pm_iand ((pm_txt tx.toNat).getD i 0) 255 % 65536 = (pm_txt tx.toNat).getD i 0 ∧ 0 ≤ (pm_txt tx.toNat).getD i 0 ∧ (pm_txt tx.toNat).getD i 0 < 65536 := by
  have key : ∀ k : Nat, k < 10 → 3 ≤ k → (pm_ishr ((pm_txt k).length : Int) 0 = ((pm_txt k).length : Int) ∧ (pm_txt k).length ≤ 6) ∧ ∀ i : Nat, i < (pm_txt k).length → pm_iand ((pm_txt k).getD i 0) 255 % 65536 = (pm_txt k).getD i 0 ∧ 0 ≤ (pm_txt k).getD i 0 ∧ (pm_txt k).getD i 0 < 65536 := by decide +kernel
  exact key tx.toNat (by omega) (by omega)
theorem cwordL_r {L : Int → Int} {N tx : Int} {s : Sc} {w : List Int} {M : pm_M} {K : Int → pm_M → Prop} (h10 : 0 ≤ tx ∧ tx < 10) (hw : pm_txt tx.toNat = w) (x1 : Hid (pm_ishr (w.length : Int) 0 = (w.length : Int))) (x2 : ∀ i : Nat, i < w.length → pm_iand (w.getD i 0) 255 % 65536 = w.getD i 0 ∧ 0 ≤ w.getD i 0 ∧ w.getD i 0 < 65536) (hT : TpC L N M) (hs : Hs s M) (p0 : 0 ≤ s.2.1) (p2 : s.2.1 + (w.length : Int) ≤ N) (yes : (∀ i : Nat, i < w.length → ub L (s.2.1 + (i : Int)) = w.getD i 0) → K 1 M) (no : ¬ (∀ i : Nat, i < w.length → ub L (s.2.1 + (i : Int)) = w.getD i 0) → K 0 M) : ∀ (d i : Nat), i + d = w.length → (∀ j : Nat, j < i → ub L (s.2.1 + (j : Int)) = w.getD j 0) → k7_isWord_28 tx (i : Int) M K := by
  obtain ⟨t1, ⟨n0, n6⟩, t3⟩ := hT
  have x3 : pm_ishr (w.length : Int) 0 = (w.length : Int) := x1
  intro d
  induction d with
  | zero =>
    intro i hi hj
    apply k7_isWord_28_r h10
    rw [hw, x3]
    clear x3
    rw [if_neg (by omega)]
    exact yes (fun j h => hj j (by omega))
  | succ d ih =>
    intro i hi hj
    apply k7_isWord_28_r h10
    rw [hw, x3, hs.2.1, t1]
    clear x3
    have w1 : w32 (s.2.1 + (i : Int)) = s.2.1 + (i : Int) := w32_id (by omega)
    have w2 : w32 ((i : Int) + 1) = ((i + 1 : Nat) : Int) := by rw [w32_id (by omega)]; omega
    rw [w1, w2, if_pos (by omega), if_neg (by omega), if_pos (by omega)]
    refine ⟨⟨by omega, by omega⟩, ?_⟩
    apply kJ0_charAt_5068e_r h10
    obtain ⟨y1, y2, y3⟩ := x2 i (by omega)
    rw [hw, Int.toNat_natCast, y1]
    clear y1
    rw [if_neg (by omega), if_pos (by omega)]
    refine ⟨⟨by omega, by omega⟩, ⟨y2, y3⟩, ⟨y2, y3⟩, ?_⟩
    rw [(t3 (s.2.1 + (i : Int)) (by omega) (by omega)).1]
    show (if ub L (s.2.1 + (i : Int)) = w.getD i 0 then _ else _)
    by_cases c : ub L (s.2.1 + (i : Int)) = w.getD i 0
    · rw [if_pos c]
      refine ih (i + 1) (by omega) (fun j h => ?_)
      by_cases e : j = i
      · subst e; exact c
      · exact hj j (by omega)
    · rw [if_neg c]; exact no (fun z => c (z i (by omega)))
theorem cword_r {L : Int → Int} {N tx : Int} {s : Sc} {M : pm_M} {K : Int → pm_M → Prop} (htx : 3 ≤ tx ∧ tx ≤ 9) (hT : TpC L N M) (hs : Hs s M) (h0 : SK N s) (hK : K (if wdb (ub L) s (pm_txt tx.toNat) = true then 1 else 0) M) : k7_isWord tx M K := by
  obtain ⟨⟨p0, p1, p2⟩, -, -⟩ := h0
  obtain ⟨⟨x1, x6⟩, x2⟩ := txt_ok htx
  have n6 := hT.2.1.2
  have h10 : 0 ≤ tx ∧ tx < 10 := by omega
  apply k7_isWord_r h10
  rw [hs.1, hs.2.1, hs.2.2.1, x1]
  generalize hw : pm_txt tx.toNat = w at *
  have x1' : Hid (pm_ishr (w.length : Int) 0 = (w.length : Int)) := x1
  clear x1
  have no : ¬ (s.2.2.1 = 2 ∧ s.1 - s.2.1 = (w.length : Int) ∧ ∀ i : Nat, i < w.length → ub L (s.2.1 + (i : Int)) = w.getD i 0) → K 0 M := by
    intro h
    rw [if_neg (fun z => h (wdb_iff.mp z))] at hK; exact hK
  have yes : (s.2.2.1 = 2 ∧ s.1 - s.2.1 = (w.length : Int) ∧ ∀ i : Nat, i < w.length → ub L (s.2.1 + (i : Int)) = w.getD i 0) → K 1 M := by
    intro h
    rw [if_pos (wdb_iff.mpr h)] at hK; exact hK
  clear hK
  rw [w32_id (show -2147483648 ≤ s.1 - s.2.1 ∧ s.1 - s.2.1 < 2147483648 by omega)]
  by_cases a : s.2.2.1 = 2
  case neg => rw [if_neg a]; exact no (fun z => a z.1)
  rw [if_pos a]
  by_cases b : s.1 - s.2.1 = (w.length : Int)
  case neg => rw [if_neg b]; exact no (fun z => b z.2.1)
  rw [if_pos b]
  exact cwordL_r h10 hw x1' x2 hT hs p0 (by omega) (fun h => yes ⟨a, b, h⟩) (fun h => no (fun z => h z.2.2)) w.length 0 (by omega) (fun j h => absurd h (Nat.not_lt_zero _))
theorem skind_r {L : Int → Int} {N : Int} {s : Sc} {M : pm_M} {K : Int → pm_M → Prop} (hT : TpC L N M) (hs : Hs s M) (h0 : SK N s) (hK : K (knd (ub L) s) M) : k4_statementKind M K := by
  apply k4_statementKind_r
  refine variable_r hT hs h0 ?_
  unfold knd at hK
  by_cases a : vr (ub L) s = -1
  case neg => rw [if_neg a]; rw [if_pos a] at hK; exact hK
  rw [if_pos a]
  rw [if_neg (fun z => z a)] at hK
  refine cword_r (tx := 3) (by decide) hT hs h0 ?_
  show (if (if wdb (ub L) s (pm_txt 3) = true then (1 : Int) else 0) = 0 then _ else _)
  by_cases b : wdb (ub L) s (pm_txt 3) = true
  · rw [if_pos b] at hK ⊢; rw [if_neg (by decide)]; exact hK
  rw [if_neg b] at hK ⊢
  rw [if_pos rfl]
  refine cword_r (tx := 4) (by decide) hT hs h0 ?_
  show (if (if wdb (ub L) s (pm_txt 4) = true then (1 : Int) else 0) = 0 then _ else _)
  by_cases c : wdb (ub L) s (pm_txt 4) = true
  · rw [if_pos c] at hK ⊢; rw [if_neg (by decide)]; exact hK
  rw [if_neg c] at hK ⊢
  rw [if_pos rfl]
  refine cword_r (tx := 5) (by decide) hT hs h0 ?_
  show (if (if wdb (ub L) s (pm_txt 5) = true then (1 : Int) else 0) = 0 then _ else _)
  by_cases d : wdb (ub L) s (pm_txt 5) = true
  · rw [if_pos d] at hK ⊢; rw [if_neg (by decide)]; exact hK
  · rw [if_neg d] at hK ⊢; rw [if_pos rfl]; exact hK

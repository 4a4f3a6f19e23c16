/-! ways linked, statement by statement -/
def fif : List Stm → Int → Int → Int → Int
  | [], _, _, _ => -1
  | t :: l, p, b, fr => if fr ≤ t.1 ∧ t.2.1 = p ∧ t.2.2.1 = b then t.1 else fif l p b fr
theorem drop_at {l : List Stm} {i : Nat} (h : i < l.length) : l.drop i = l.getD i zS :: l.drop (i + 1) := by
  rw [List.drop_eq_getElem_cons h, List.getD_eq_getElem?_getD, List.getElem?_eq_getElem h]; rfl
theorem CR.frg {o : Nat} {l : List Stm} {n : Nat} {M M' : pm_M} {p : Nat → Nat → Bool} (h : CR o l n M) (f : Fr p M M') (h0 : p o 16 = false) (h1 : ∀ i, p (o + 12) i = false) (h2 : ∀ i, p (o + 11) i = false) (h3 : ∀ t ∈ l, p (o + 4) t.1.toNat = false) : CR o l n M' := by
  refine ⟨?_, fun i hi => ?_, fun h60 t ht => ?_⟩
  · rw [f.g h0]; exact h.1
  · rw [f.g (h1 _)]; exact h.2.1 i hi
  · rw [f.g (h3 t ht), f.g (h2 _)]; exact h.2.2 h60 t ht
theorem first_r {o : Nat} (ho : o = 2 ∨ o = 36) {nd : List (Int × Int)} {l : List Stm} {p b fr : Int} {M : pm_M} {K : Int → pm_M → Prop} (hW : WLs nd l) (h60 : nd.length ≤ 60) (hR : CR o l nd.length M) (hK : K (fif l p b fr) M) : k0_firstIn o p b fr M K := by
  apply k0_firstIn_r ho
  have h20 := hW.1.1
  have loop : ∀ (d i : Nat), i + d = l.length → fif (l.drop i) p b fr = fif l p b fr → k0_firstIn_3 o p b fr (i : Int) M K := by
    intro d
    induction d with
    | zero =>
      intro i hi he
      apply k0_firstIn_3_r ho
      rw [hR.1, if_neg (by omega)]
      rw [List.drop_of_length_le (by omega)] at he
      rw [← he] at hK; exact hK
    | succ d ih =>
      intro i hi he
      have hi' : i < l.length := by omega
      apply k0_firstIn_3_r ho
      have hm := gdM (z := zS) hi'
      have hb := (hW.2.2.2.1 _ hm).1
      have hr := hR.2.2 h60 _ hm
      rw [hR.1, if_pos (by omega), hR.2.1 i hi', hr.1, hr.2, w32_id (show -2147483648 ≤ (i : Int) + 1 ∧ (i : Int) + 1 < 2147483648 by omega)]
      refine ⟨⟨by omega, by omega⟩, ?_⟩
      rw [drop_at hi'] at he
      have he' : (if fr ≤ (l.getD i zS).1 ∧ (l.getD i zS).2.1 = p ∧ (l.getD i zS).2.2.1 = b then (l.getD i zS).1 else fif (l.drop (i + 1)) p b fr) = fif l p b fr := he
      have next : ¬ (fr ≤ (l.getD i zS).1 ∧ (l.getD i zS).2.1 = p ∧ (l.getD i zS).2.2.1 = b) → k0_firstIn_3 o p b fr ((i : Int) + 1) M K := by
        intro hno
        rw [if_neg hno] at he'
        have := ih (i + 1) (by omega) he'
        rw [show (((i + 1 : Nat)) : Int) = (i : Int) + 1 by omega] at this
        exact this
      by_cases c1 : (l.getD i zS).1 < fr
      · rw [if_pos c1]; exact next (fun z => by omega)
      rw [if_neg c1]
      refine ⟨⟨by omega, by omega⟩, ?_⟩
      by_cases c2 : (l.getD i zS).2.1 = p
      case neg => rw [if_neg c2]; exact next (fun z => c2 z.2.1)
      rw [if_pos c2]
      by_cases c3 : (l.getD i zS).2.2.1 = b
      case neg => rw [if_neg c3]; exact next (fun z => c3 z.2.2)
      rw [if_pos c3]
      rw [if_pos ⟨by omega, c2, c3⟩] at he'
      rw [← he'] at hK; exact hK
  exact loop l.length 0 (by omega) rfl
/-- what is linked of a statement -/
def LKt (o : Nat) (l : List Stm) (M : pm_M) (t : Stm) : Prop := gI M (o + 7) t.1 = t.2.2.2 ∧ gI M (o + 5) t.1 = t.1 ∧ (∀ m, t.1 < m → m ≤ t.2.2.2 → gI M (o + 5) m = t.1) ∧ (∃ g, CXm o M g (t.1 + 1) t.2.2.2) ∧ gI M (o + 4) (t.1 + 1) = t.1 ∧
  gI M (o + 8) t.1 = (if fif l t.2.1 t.2.2.1 (t.1 + 1) = -1 then (if t.2.1 = -1 then -1 else if gI M (o + 1) t.2.1 = 2 then t.2.1 else gI M (o + 8) t.2.1) else fif l t.2.1 t.2.2.1 (t.1 + 1)) ∧
  gI M (o + 9) t.1 = (if fif l t.1 0 (t.1 + 1) = -1 then (if gI M (o + 1) t.1 = 2 then t.1 else gI M (o + 8) t.1) else fif l t.1 0 (t.1 + 1)) ∧
  gI M (o + 10) t.1 = (if fif l t.1 1 (t.1 + 1) = -1 then gI M (o + 8) t.1 else fif l t.1 1 (t.1 + 1))
def pW (o : Nat) (s : Int) (a i : Nat) : Bool := (a == o + 8 || a == o + 9 || a == o + 10) && decide ((i : Int) = s)
theorem ways_r {o : Nat} (ho : o = 2 ∨ o = 36) {nd : List (Int × Int)} {l : List Stm} {t : Stm} {M : pm_M} {K : pm_M → Prop} (hW : WLs nd l) (h60 : nd.length ≤ 60) (hR : CR o l nd.length M) (ht : t ∈ l)
    (hq : ∀ M', Fr (pW o t.1) M M' → gI M' (o + 8) t.1 = (if fif l t.2.1 t.2.2.1 (t.1 + 1) = -1 then (if t.2.1 = -1 then -1 else if gI M (o + 1) t.2.1 = 2 then t.2.1 else gI M (o + 8) t.2.1) else fif l t.2.1 t.2.2.1 (t.1 + 1)) → gI M' (o + 9) t.1 = (if fif l t.1 0 (t.1 + 1) = -1 then (if gI M (o + 1) t.1 = 2 then t.1 else gI M' (o + 8) t.1) else fif l t.1 0 (t.1 + 1)) → gI M' (o + 10) t.1 = (if fif l t.1 1 (t.1 + 1) = -1 then gI M' (o + 8) t.1 else fif l t.1 1 (t.1 + 1)) → K M') : k0_linkWays o t.1 M K := by
  have hb := (hW.2.2.2.1 t ht).1
  have hr := hR.2.2 h60 t ht
  have w1 : w32 (t.1 + 1) = t.1 + 1 := w32_id (by omega)
  have hp0 : t.2.1 = -1 ∨ (0 ≤ t.2.1 ∧ t.2.1 < 60) := by
    rcases (hW.2.2.2.1 t ht).2.2.2 with h | ⟨s, hs, h1, h2, -⟩
    · exact Or.inl h.1
    · have := (hW.2.2.2.1 s hs).1; exact Or.inr ⟨by omega, by omega⟩
  have crw : ∀ (X Y : pm_M), CR o l nd.length X → Fr (pW o t.1) X Y → CR o l nd.length Y := fun X Y h f => h.frg f (by simp [pW]) (fun i => by simp [pW]) (fun i => by simp [pW]) (fun t _ => by simp [pW])
  have fin : ∀ nx, nx = (if fif l t.2.1 t.2.2.1 (t.1 + 1) = -1 then (if t.2.1 = -1 then -1 else if gI M (o + 1) t.2.1 = 2 then t.2.1 else gI M (o + 8) t.2.1) else fif l t.2.1 t.2.2.1 (t.1 + 1)) → k0_linkWays_53 o t.1 nx M K := by
    intro nx hnx
    apply k0_linkWays_53_r ho
    rw [w1]
    refine ⟨⟨hb.1, by omega⟩, ?_⟩
    have f1 : Fr (pW o t.1) M (upI M (o + 8) t.1 nx) := Fr.rf.up _ (by simp [pW] <;> omega)
    have a8 : gI (upI M (o + 8) t.1 nx) (o + 8) t.1 = nx := gI_eq _ _ _ _
    have a1 : gI (upI M (o + 8) t.1 nx) (o + 1) t.1 = gI M (o + 1) t.1 := gI_ne _ _ _ _ (by omega)
    generalize upI M (o + 8) t.1 nx = M1 at *
    refine first_r ho hW h60 (crw _ _ hR f1) ?_
    have last : ∀ v, v = (if fif l t.1 0 (t.1 + 1) = -1 then (if gI M (o + 1) t.1 = 2 then t.1 else nx) else fif l t.1 0 (t.1 + 1)) → k0_firstIn o t.1 1 (t.1 + 1) (upI M1 (o + 9) t.1 v) (fun r7 M6 => (if r7 = (-1) then K (upI M6 (o + 10) t.1 nx) else K (upI M6 (o + 10) t.1 r7))) := by
      intro v hv
      have f2 : Fr (pW o t.1) M (upI M1 (o + 9) t.1 v) := f1.up _ (by simp [pW] <;> omega)
      have b8 : gI (upI M1 (o + 9) t.1 v) (o + 8) t.1 = nx := by rw [gI_ne _ _ _ _ (by omega)]; exact a8
      have b9 : gI (upI M1 (o + 9) t.1 v) (o + 9) t.1 = v := gI_eq _ _ _ _
      generalize upI M1 (o + 9) t.1 v = M2 at *
      refine first_r ho hW h60 (crw _ _ hR f2) ?_
      have put : ∀ w, w = (if fif l t.1 1 (t.1 + 1) = -1 then nx else fif l t.1 1 (t.1 + 1)) → K (upI M2 (o + 10) t.1 w) := by
        intro w hw
        have c8 : gI (upI M2 (o + 10) t.1 w) (o + 8) t.1 = nx := by rw [gI_ne _ _ _ _ (by omega)]; exact b8
        refine hq _ (f2.up _ (by simp [pW] <;> omega)) (by rw [c8]; exact hnx) ?_ ?_
        · rw [c8, gI_ne _ _ _ _ (by omega), b9]; exact hv
        · rw [c8, gI_eq]; exact hw
      by_cases z : fif l t.1 1 (t.1 + 1) = -1
      · rw [if_pos z]; exact put _ (by rw [if_pos z])
      · rw [if_neg z]; exact put _ (by rw [if_neg z])
    by_cases z : fif l t.1 0 (t.1 + 1) = -1
    · rw [if_pos z, a1]
      by_cases y : gI M (o + 1) t.1 = 2
      · rw [if_pos y]; exact last _ (by rw [if_pos z, if_pos y])
      · rw [if_neg y]; exact last _ (by rw [if_pos z, if_neg y])
    · rw [if_neg z]; exact last _ (by rw [if_neg z])
  apply k0_linkWays_r ho
  rw [hr.1, hr.2, w1]
  refine ⟨⟨hb.1, by omega⟩, first_r ho hW h60 hR ?_⟩
  by_cases z : fif l t.2.1 t.2.2.1 (t.1 + 1) = -1
  · rw [if_pos z]
    by_cases y : t.2.1 = -1
    · rw [if_pos y]; exact fin _ (by rw [if_pos z, if_pos y]; exact z)
    · rw [if_neg y]
      refine ⟨by omega, ?_⟩
      by_cases x : gI M (o + 1) t.2.1 = 2
      · rw [if_pos x]; exact fin _ (by rw [if_pos z, if_neg y, if_pos x])
      · rw [if_neg x]; exact fin _ (by rw [if_pos z, if_neg y, if_neg x])
  · rw [if_neg z]; exact fin _ (by rw [if_neg z])
def pLi (o : Nat) (s e : Int) (a i : Nat) : Bool := (a == o + 4 && (decide (s < (i : Int)) && decide ((i : Int) ≤ e))) || ((a == o + 5 || a == o + 6 || a == o + 7 || a == o + 8 || a == o + 9 || a == o + 10) && (decide (s ≤ (i : Int)) && decide ((i : Int) ≤ e)))
theorem pX_L {o : Nat} {s e : Int} {a i : Nat} (h : pX o s e a i = true) : pLi o s e a i = true := by
  simp only [pX, pLi, Bool.or_eq_true, Bool.and_eq_true, beq_iff_eq, decide_eq_true_eq] at h ⊢
  omega
theorem pW_L {o : Nat} {s e : Int} (hse : s ≤ e) {a i : Nat} (h : pW o s a i = true) : pLi o s e a i = true := by
  simp only [pW, pLi, Bool.or_eq_true, Bool.and_eq_true, beq_iff_eq, decide_eq_true_eq] at h ⊢
  omega
def pK (o a _i : Nat) : Bool := o + 4 ≤ a && a ≤ o + 10
theorem pLi_K {o : Nat} {s e : Int} {a i : Nat} (h : pLi o s e a i = true) : pK o a i = true := by
  simp only [pK, pLi, Bool.or_eq_true, Bool.and_eq_true, beq_iff_eq, decide_eq_true_eq] at h ⊢
  omega
/-- a statement linked before stays linked -/
theorem LKt.fr {o : Nat} {nd : List (Int × Int)} {l : List Stm} {M M' : pm_M} {t : Stm} {s e : Int} (hW : WLs nd l) (ht : t ∈ l) (h : LKt o l M t) (hs : t.2.2.2 < s) (f : Fr (pLi o s e) M M') : LKt o l M' t := by
  have hb := (hW.2.2.2.1 t ht).1
  obtain ⟨a1, a2, a3, ⟨g, a4⟩, a5, a6, a7, a8⟩ := h
  have keep : ∀ a k, 0 ≤ k → k < s → gI M' a k = gI M a k := fun a k k0 k1 => f.g (by
    simp only [pLi, Bool.or_eq_false_iff, Bool.and_eq_false_iff, decide_eq_false_iff_not]
    omega)
  have hpar : t.2.1 = -1 ∨ (0 ≤ t.2.1 ∧ t.2.1 < t.1) := by
    rcases (hW.2.2.2.1 t ht).2.2.2 with h | ⟨s, hs, h1, h2, -⟩
    · exact Or.inl h.1
    · have := (hW.2.2.2.1 s hs).1; exact Or.inr ⟨by omega, by omega⟩
  refine ⟨?_, ?_, fun m m0 m1 => ?_, ⟨g, a4.same (fun k k0 k1 => ⟨keep _ _ (by omega) (by omega), keep _ _ (by omega) (by omega)⟩) (fun k k0 k1 => keep _ _ (by omega) (by omega))⟩, ?_, ?_, ?_, ?_⟩
  · rw [keep _ _ (by omega) (by omega)]; exact a1
  · rw [keep _ _ (by omega) (by omega)]; exact a2
  · rw [keep _ _ (by omega) (by omega)]; exact a3 m m0 m1
  · rw [keep _ _ (by omega) (by omega)]; exact a5
  · rw [keep _ t.1 (by omega) (by omega), a6]
    rcases hpar with hp | hp
    · rw [if_pos hp, if_pos hp]
    · rw [keep _ t.2.1 (by omega) (by omega), keep _ t.2.1 (by omega) (by omega)]
  · rw [keep (o + 9) t.1 (by omega) (by omega), keep (o + 1) t.1 (by omega) (by omega), keep (o + 8) t.1 (by omega) (by omega)]; exact a7
  · rw [keep (o + 10) t.1 (by omega) (by omega), keep (o + 8) t.1 (by omega) (by omega)]; exact a8
theorem link_r {o : Nat} (ho : o = 2 ∨ o = 36) {nd : List (Int × Int)} {l : List Stm} {M : pm_M} {K : pm_M → Prop} (hW : WLs nd l) (h60 : nd.length ≤ 60) (h15 : gI M o 15 = (nd.length : Int)) (hk : ∀ i : Nat, i < nd.length → gI M (o + 1) (i : Int) = (nd.getD i (0, 0)).1) (hR : CR o l nd.length M)
    (hq : ∀ M', Fr (pK o) M M' → CR o l nd.length M' → (∀ t ∈ l, LKt o l M' t) → K M') : k0_link o M K := by
  apply k0_link_r ho
  have h20 := hW.1.1
  have loop : ∀ (d i : Nat) (M1 : pm_M), i + d = l.length → Fr (pK o) M M1 → CR o l nd.length M1 → (∀ j : Nat, j < i → LKt o l M1 (l.getD j zS)) → k0_link_2 o (i : Int) M1 K := by
    intro d
    induction d with
    | zero =>
      intro i M1 hi f1 r1 hl
      apply k0_link_2_r ho
      rw [r1.1, if_neg (by omega)]
      refine hq M1 f1 r1 (fun t ht => ?_)
      obtain ⟨j, hj, e⟩ := gdI zS ht
      rw [← e]; exact hl j (by omega)
    | succ d ih =>
      intro i M1 hi f1 r1 hl
      have hi' : i < l.length := by omega
      have hm := gdM (z := zS) hi'
      have hc := hW.2.2.1 i hi'
      have r1i := r1.2.1 i hi'
      have hsr : ∀ j : Nat, j < i → (l.getD j zS).1 < (l.getD i zS).1 := fun j hj => hW.srt i j hi' hj
      obtain ⟨t, et⟩ : ∃ t, t = l.getD i zS := ⟨_, rfl⟩
      rw [← et] at hm hc r1i hsr
      obtain ⟨hb, -, ⟨g, hx⟩, -⟩ := hW.2.2.2.1 _ hm
      apply k0_link_2_r ho
      have w1 : w32 ((i : Int) + 1) = ((i + 1 : Nat) : Int) := by rw [w32_id (by omega)]; omega
      rw [r1.1, if_pos (by omega), w1, r1i, f1.g (show pK o o 15 = false by simp [pK]), h15]
      refine ⟨⟨by omega, by omega⟩, ?_⟩
      have step : ∀ e, e = t.2.2.2 → k0_linkExpression o t.1 (upI (upI M1 (o + 7) t.1 e) (o + 5) t.1 t.1) (fun M6 => k0_linkWays o t.1 M6 (fun M8 => k0_link_2 o ((i + 1 : Nat) : Int) M8 K)) := by
        intro e he
        subst he
        have f2 : Fr (pLi o t.1 t.2.2.2) M1 (upI (upI M1 (o + 7) t.1 t.2.2.2) (o + 5) t.1 t.1) := (Fr.rf.up _ (by simp [pLi] <;> omega)).up _ (by simp [pLi] <;> omega)
        have a7 : gI (upI (upI M1 (o + 7) t.1 t.2.2.2) (o + 5) t.1 t.1) (o + 7) t.1 = t.2.2.2 := by rw [gI_ne _ _ _ _ (by omega), gI_eq]
        have a5 : gI (upI (upI M1 (o + 7) t.1 t.2.2.2) (o + 5) t.1 t.1) (o + 5) t.1 = t.1 := gI_eq _ _ _ _
        generalize upI (upI M1 (o + 7) t.1 t.2.2.2) (o + 5) t.1 t.1 = M2 at *
        have k2 : ∀ i : Nat, i < nd.length → gI M2 (o + 1) (i : Int) = (nd.getD i (0, 0)).1 := fun j hj => by
          rw [f2.g (by simp [pLi]), f1.g (by simp [pK])]; exact hk j hj
        refine linkX_r ho h60 k2 hb.1 hb.2.2 hx a7 (fun M3 f3 b5 bx b4 => ?_)
        have f23 : Fr (pLi o t.1 t.2.2.2) M1 M3 := f2.trans (f3.mono (fun a i y => pX_L y))
        have crL : ∀ (X Y : pm_M), CR o l nd.length X → Fr (pLi o t.1 t.2.2.2) X Y → CR o l nd.length Y := fun X Y h f => h.frg f (by simp [pLi]) (fun i => by simp [pLi]) (fun i => by simp [pLi]) (fun t' ht' => by
          obtain ⟨j, hj, e⟩ := gdI zS ht'
          have hbt := (hW.2.2.2.1 t' ht').1
          have hno : ¬ (t.1 < t'.1 ∧ t'.1 ≤ t.2.2.2) := by
            intro ⟨y1, y2⟩
            by_cases q : j ≤ i
            · by_cases q' : j = i
              · rw [q', ← et] at e; rw [e] at y1; omega
              · have := hsr j (by omega); rw [e] at this; omega
            · rw [if_pos (by omega)] at hc
              by_cases q' : j = i + 1
              · rw [q'] at e; rw [e] at hc; omega
              · have := hW.srt j (i + 1) hj (by omega); rw [e] at this; omega
          simp [pLi] <;> omega)
        have r3 := crL _ _ r1 f23
        refine ways_r ho hW h60 r3 hm (fun M4 f4 c8 c9 c10 => ?_)
        have f24 : Fr (pLi o t.1 t.2.2.2) M1 M4 := f23.trans (f4.mono (fun a i y => pW_L (by omega) y))
        refine ih (i + 1) M4 (by omega) (f1.trans (f24.mono (fun a i y => pLi_K y))) (crL _ _ r1 f24) (fun j hj => ?_)
        by_cases e : j = i
        · rw [e, ← et]
          have hpar := (hW.2.2.2.1 _ hm).2.2.2
          obtain ⟨g', bx⟩ := bx
          refine ⟨?_, ?_, fun m m0 m1 => ?_, ⟨g', bx.same (fun k k0 k1 => ⟨f4.g (by simp [pW]), f4.g (by simp [pW])⟩) (fun k k0 k1 => f4.g (by simp [pW]))⟩, ?_, ?_, ?_, c10⟩
          · rw [f4.g (by simp [pW]), f3.g (by simp [pX] <;> omega)]; exact a7
          · rw [f4.g (by simp [pW]), f3.g (by simp [pX] <;> omega)]; exact a5
          · rw [f4.g (by simp [pW])]; exact b5 m m0 m1
          · rw [f4.g (by simp [pW])]; exact b4
          · rw [c8]
            rcases hpar with hp | ⟨s, s1, s2, s3, -⟩
            · rw [if_pos hp.1, if_pos hp.1]
            · have hbs := (hW.2.2.2.1 s s1).1
              rw [f4.g (show pW o t.1 (o + 1) t.2.1.toNat = false by simp [pW]), f4.g (show pW o t.1 (o + 8) t.2.1.toNat = false by simp [pW] <;> omega)]
          · rw [f4.g (show pW o t.1 (o + 1) t.1.toNat = false by simp [pW])]; exact c9
        · have hj' : j < i := by omega
          have hmj := gdM (z := zS) (show j < l.length by omega)
          refine (hl j hj').fr hW hmj ?_ f24
          have hcj := hW.2.2.1 j (by omega)
          rw [if_pos (by omega)] at hcj
          by_cases q : j + 1 = i
          · rw [q, ← et] at hcj; omega
          · have := hsr (j + 1) (by omega); omega
      by_cases q : i + 1 < l.length
      · rw [if_pos q] at hc
        rw [if_pos (by omega), r1.2.1 (i + 1) q]
        refine ⟨⟨by omega, by omega⟩, ⟨by omega, by omega⟩, step _ ?_⟩
        rw [w32_id (by have := (hW.2.2.2.1 _ (gdM (z := zS) q)).1; omega)]; omega
      · rw [if_neg q] at hc
        rw [if_neg (by omega)]
        refine ⟨⟨by omega, by omega⟩, step _ ?_⟩
        rw [w32_id (by omega)]; omega
  exact loop l.length 0 M (by omega) Fr.rf hR (fun j hj => absurd hj (Nat.not_lt_zero _))

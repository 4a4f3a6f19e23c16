/-! statements: what reading them keeps -/
def GP (N : Int) (S : Ps) : Prop := SK N S.1 ∧ (S.2.length : Int) ≤ (if S.1.2.2.2.2 = 0 then S.1.2.1 else S.1.1)
theorem GP.rf {N k : Int} {S : Ps} (h : GP N S) (hk : 0 < k) : GP N (refu S.1 k, S.2) := by
  by_cases z : S.1.2.2.2.2 = 0
  · have hl := h.2
    rw [if_pos z] at hl
    have g := Gd.rf2 h.1 hl z hk
    exact ⟨g.1, g.2.2⟩
  · rw [refu_dead z]; exact h
theorem GP.av {u : Int → Int} {N : Int} {S : Ps} (h : GP N S) : GP N (adv u N S.1, S.2) := by
  by_cases z : S.1.2.2.2.2 = 0
  · have hl := h.2
    rw [if_pos z] at hl
    have h2 := adv_pl (u := u) h.1 z
    have h3 : SK N (adv u N S.1) := h.1.advk
    have h4 := h3.1
    have h5 := h.1.1
    refine ⟨h3, ?_⟩
    simp only []
    split <;> omega
  · rw [adv_dead z]; exact h
theorem GP.xm {u : Int → Int} {N c : Int} {S : Ps} (h : GP N S) : GP N (exm u N c S.1, S.2) := by
  unfold exm
  by_cases y : S.1.2.2.1 = 5 ∧ S.1.2.2.2.1 = c
  · rw [if_pos y]; exact h.av
  · rw [if_neg y]; exact (h.rf (k := 1) (by decide)).av
theorem GP.hd {u : Int → Int} {N : Int} {S : Ps} (h : GP N S) (h0 : S.1.2.2.2.2 = 0) (hk : ¬ knd u S.1 = -1) : GP N (hdp u N S) := by
  have hl := h.2
  rw [if_pos h0] at hl
  have g := Gd.tk (u := u) (l := S.2 ++ [(knd u S.1, vr u S.1)]) h.1 hl h0 (by have := knd_ty hk; omega) (by simp)
  have g2 : GP N (adv u N S.1, S.2 ++ [(knd u S.1, vr u S.1)]) := ⟨g.1, g.2.2⟩
  unfold hdp
  by_cases e : knd u S.1 = 0
  · rw [if_pos e]; exact g2.xm
  · rw [if_neg e]; exact g2
theorem GP.rx {u : Int → Int} {N : Int} {S : Ps} {f : Nat} {lev d : Int} (h : GP N S) : GP N (rx u N f lev d S) := by
  have g := rx_Gd (u := u) f lev d S h.1 h.2
  exact ⟨g.1, g.2.2⟩
theorem blf_GP {N : Int} {g : Qs → Qs} (hg : ∀ Q, GP N Q.1 → GP N (g Q).1) : ∀ (n : Nat) (Q : Qs), GP N Q.1 → GP N (blf g n Q).1 := by
  intro n
  induction n with
  | zero => intro Q h; exact h
  | succ n ih =>
    intro Q h
    by_cases a : Q.1.1.2.2.2.2 = 0 ∧ ¬ (Q.1.1.2.2.1 = 5 ∧ Q.1.1.2.2.2.1 = 125)
    · rw [blf_next a]; exact ih _ (hg _ h)
    · rw [blf_stop a]; exact h
theorem rbl_GP {u : Int → Int} {N dep : Int} {g : Qs → Qs} (hg : ∀ Q, GP N Q.1 → GP N (g Q).1) {Q : Qs} (h : GP N Q.1) : GP N (rbl g u N dep Q).1 := by
  unfold rbl
  by_cases a : (Q.1.1.2.2.1 = 5 ∧ Q.1.1.2.2.2.1 = 123) ∧ 4 ≤ dep
  · rw [if_pos a]; exact h.rf (by decide)
  · rw [if_neg a]
    have h1 : GP N (xmq u N 123 Q).1 := h.xm
    exact (blf_GP hg 600 _ h1).xm
theorem rst_GP {u : Int → Int} {N : Int} : ∀ (f : Nat) (par br dep : Int) (Q : Qs), GP N Q.1 → GP N (rst u N f par br dep Q).1 := by
  intro f
  induction f with
  | zero => intro par br dep Q h; exact h
  | succ f ih =>
    intro par br dep Q h
    by_cases h0 : Q.1.1.2.2.2.2 = 0
    case neg => rw [rst_dead h0 (h.1.2.1 h0)]; exact h
    unfold rst
    by_cases a : knd u Q.1.1 = -1
    · rw [if_pos a]; exact h.rf (by decide)
    rw [if_neg a]
    by_cases b : 20 ≤ Q.2.length
    · rw [if_pos b]; exact h.rf (by decide)
    rw [if_neg b]
    have h1 : GP N (exq u N par br Q).1 := (h.hd h0 a).rx
    by_cases c : knd u Q.1.1 = 0 ∨ knd u Q.1.1 = 3
    · rw [if_pos c]; exact h1.xm
    rw [if_neg c]
    have h2 : GP N (rbl (rst u N f (Q.1.2.length : Int) 0 (dep + 1)) u N dep (exq u N par br Q)).1 := rbl_GP (fun Q hQ => ih _ _ _ Q hQ) h1
    generalize rbl (rst u N f (Q.1.2.length : Int) 0 (dep + 1)) u N dep (exq u N par br Q) = Q2 at *
    by_cases d : knd u Q.1.1 = 1 ∧ wdb u Q2.1.1 (pm_txt 6) = true
    · rw [if_pos d]
      have h3 : GP N (avq u N Q2).1 := h2.av
      exact rbl_GP (fun Q hQ => ih _ _ _ Q hQ) h3
    · rw [if_neg d]; exact h2
/-- one reading goes on from another -/
def Rl (p : Int) (Q Q' : Qs) : Prop := (∃ X D, Q'.1.2 = Q.1.2 ++ X ∧ Q'.2 = Q.2 ++ D) ∧ WLs Q'.1.2 Q'.2 ∧ ∀ q, q ≤ p → Opn Q.2 q → Opn Q'.2 q
theorem Rl.rf {p : Int} {Q Q' : Qs} (h : WLs Q.1.2 Q.2) (e1 : Q'.1.2 = Q.1.2) (e2 : Q'.2 = Q.2) : Rl p Q Q' := ⟨⟨[], [], by rw [e1, List.append_nil], by rw [e2, List.append_nil]⟩, by rw [e1, e2]; exact h, fun q _ ho => by rw [e2]; exact ho⟩
theorem Rl.tr {p : Int} {Q Q' Q'' : Qs} (h : Rl p Q Q') (h' : Rl p Q' Q'') : Rl p Q Q'' := by
  obtain ⟨⟨X, D, e1, e2⟩, w, o⟩ := h
  obtain ⟨⟨X', D', e1', e2'⟩, w', o'⟩ := h'
  exact ⟨⟨X ++ X', D ++ D', by rw [e1', e1, List.append_assoc], by rw [e2', e2, List.append_assoc]⟩, w', fun q hq ho => o' q hq (o q hq ho)⟩
theorem Rl.dn {p p' : Int} {Q Q' : Qs} (h : Rl p Q Q') (hp : p' ≤ p) : Rl p' Q Q' := ⟨h.1, h.2.1, fun q hq ho => h.2.2 q (by omega) ho⟩
theorem Rl.pr {p par br : Int} {Q Q' : Qs} (h : Rl p Q Q') (hw : WLs Q.1.2 Q.2) (hp : PrO Q.1.2 Q.2 par br) : PrO Q'.1.2 Q'.2 par br := by
  obtain ⟨⟨X, D, e1, e2⟩, -, -⟩ := h
  rw [e1, e2]; exact hp.ext hw
theorem al_xm {u : Int → Int} {N c : Int} {Q : Qs} (h : (xmq u N c Q).1.1.2.2.2.2 = 0) : Q.1.1.2.2.2.2 = 0 := Decidable.byContradiction (fun z => by rw [xmq_dead z] at h; exact z h)
theorem al_av {u : Int → Int} {N : Int} {Q : Qs} (h : (avq u N Q).1.1.2.2.2.2 = 0) : Q.1.1.2.2.2.2 = 0 := Decidable.byContradiction (fun z => by rw [avq_dead z] at h; exact z h)
theorem al_rb {g : Qs → Qs} {u : Int → Int} {N dep : Int} {Q : Qs} (h : (rbl g u N dep Q).1.1.2.2.2.2 = 0) : Q.1.1.2.2.2.2 = 0 := Decidable.byContradiction (fun z => by rw [rbl_dead z] at h; exact z h)
theorem al_bl {g : Qs → Qs} {n : Nat} {Q : Qs} (h : (blf g n Q).1.1.2.2.2.2 = 0) : Q.1.1.2.2.2.2 = 0 := Decidable.byContradiction (fun z => by rw [blf_stop (fun y => z y.1)] at h; exact z h)
theorem refu_no {N k : Int} {s : Sc} (hS : SK N s) (h0 : s.2.2.2.2 = 0) (hk : 0 < k) : ¬ (refu s k).2.2.2.2 = 0 := by
  have := hS.1
  unfold refu; rw [if_pos h0]; simp only []; omega
theorem exm_yes {u : Int → Int} {N c : Int} {s : Sc} (hS : SK N s) (h0 : s.2.2.2.2 = 0) (h : (exm u N c s).2.2.2.2 = 0) : s.2.2.1 = 5 ∧ s.2.2.2.1 = c := by
  by_cases y : s.2.2.1 = 5 ∧ s.2.2.2.1 = c
  · exact y
  · unfold exm at h
    rw [if_neg y, adv_dead (refu_no hS h0 (by decide))] at h
    exact absurd h (refu_no hS h0 (by decide))
theorem blf_ok {N k br : Int} {g : Qs → Qs} (hgp : ∀ Q, GP N Q.1 → GP N (g Q).1) (hg : ∀ Q : Qs, GP N Q.1 → Q.1.1.2.2.2.2 = 0 → WLs Q.1.2 Q.2 → Opn Q.2 k → PrO Q.1.2 Q.2 k br → (g Q).1.1.2.2.2.2 = 0 → Rl k Q (g Q)) : ∀ (n : Nat) (Q : Qs), GP N Q.1 → WLs Q.1.2 Q.2 → Opn Q.2 k → PrO Q.1.2 Q.2 k br → (blf g n Q).1.1.2.2.2.2 = 0 → Rl k Q (blf g n Q) := by
  intro n
  induction n with
  | zero => intro Q _ w _ _ _; exact Rl.rf w rfl rfl
  | succ n ih =>
    intro Q h w o p ha
    by_cases a : Q.1.1.2.2.2.2 = 0 ∧ ¬ (Q.1.1.2.2.1 = 5 ∧ Q.1.1.2.2.2.1 = 125)
    · rw [blf_next a] at ha ⊢
      have r := hg Q h a.1 w o p (al_bl ha)
      exact r.tr (ih _ (hgp _ h) r.2.1 (r.2.2 k (Int.le_refl _) o) (r.pr w p) ha)
    · rw [blf_stop a]; exact Rl.rf w rfl rfl
theorem rbl_ok {u : Int → Int} {N k br dep : Int} {g : Qs → Qs} (hgp : ∀ Q, GP N Q.1 → GP N (g Q).1) (hg : dep < 4 → ∀ Q : Qs, GP N Q.1 → Q.1.1.2.2.2.2 = 0 → WLs Q.1.2 Q.2 → Opn Q.2 k → PrO Q.1.2 Q.2 k br → (g Q).1.1.2.2.2.2 = 0 → Rl k Q (g Q)) {Q : Qs} (h : GP N Q.1) (w : WLs Q.1.2 Q.2) (o : Opn Q.2 k) (p : PrO Q.1.2 Q.2 k br) (ha : (rbl g u N dep Q).1.1.2.2.2.2 = 0) : dep < 4 ∧ (Q.1.1.2.2.1 = 5 ∧ Q.1.1.2.2.2.1 = 123) ∧ Rl k Q (rbl g u N dep Q) := by
  have h0 := al_rb ha
  unfold rbl at ha ⊢
  by_cases a : (Q.1.1.2.2.1 = 5 ∧ Q.1.1.2.2.2.1 = 123) ∧ 4 ≤ dep
  · rw [if_pos a] at ha
    exact absurd ha (refu_no h.1 h0 (by decide))
  rw [if_neg a] at ha ⊢
  have h1 := al_xm ha
  have h2 := al_bl h1
  have h3 := exm_yes h.1 h0 h2
  have hd : dep < 4 := Decidable.byContradiction (fun z => a ⟨h3, by omega⟩)
  have h4 : GP N (xmq u N 123 Q).1 := h.xm
  refine ⟨hd, h3, ?_⟩
  have r1 : Rl k Q (xmq u N 123 Q) := Rl.rf w rfl rfl
  have r2 := blf_ok hgp (hg hd) 600 _ h4 r1.2.1 o p h1
  exact (r1.tr r2).tr (Rl.rf r2.2.1 rfl rfl)
theorem exq_ok {u : Int → Int} {N par br : Int} {Q : Qs} (h : GP N Q.1) (h0 : Q.1.1.2.2.2.2 = 0) (hk : ¬ knd u Q.1.1 = -1) (h20 : Q.2.length < 20) (w : WLs Q.1.2 Q.2) (o : Opn Q.2 par) (p : PrO Q.1.2 Q.2 par br) (ha : (exq u N par br Q).1.1.2.2.2.2 = 0) : ∃ E g, EXl g E ∧ (exq u N par br Q).1.2 = Q.1.2 ++ (knd u Q.1.1, vr u Q.1.1) :: E ∧ (exq u N par br Q).2 = Q.2 ++ [((Q.1.2.length : Int), par, br, (Q.1.2.length : Int) + (E.length : Int))] ∧ Rl par Q (exq u N par br Q) ∧ Opn (exq u N par br Q).2 (Q.1.2.length : Int) := by
  have g1 := h.hd h0 hk
  obtain ⟨E, g, e1, x1⟩ := rx_EX (u := u) (N := N) 36 0 0 (hdp u N Q.1) (by decide) (by decide) (by decide) (by decide) (by decide) g1.1 g1.2 ha
  have e2 : (exq u N par br Q).1.2 = Q.1.2 ++ (knd u Q.1.1, vr u Q.1.1) :: E := by
    show (rx u N 36 0 0 (hdp u N Q.1)).2 = _
    rw [e1]
    show (Q.1.2 ++ [(knd u Q.1.1, vr u Q.1.1)]) ++ E = _
    rw [List.append_assoc]; rfl
  have e3 : (exq u N par br Q).2 = Q.2 ++ [((Q.1.2.length : Int), par, br, (Q.1.2.length : Int) + (E.length : Int))] := by
    show Q.2 ++ [((Q.1.2.length : Int), par, br, ((exq u N par br Q).1.2.length : Int) - 1)] = _
    rw [e2, List.length_append, List.length_cons, show ((Q.1.2.length + (E.length + 1) : Nat) : Int) - 1 = (Q.1.2.length : Int) + (E.length : Int) by omega]
  have hw : WLs (exq u N par br Q).1.2 (exq u N par br Q).2 := by
    rw [e2, e3]
    exact w.add h20 x1 ((knd_rng u Q.1.1).resolve_left hk) (fun z => (vr_rng u Q.1.1).resolve_left (knd_v.mp z)) o p
  have hlt := p.lt w
  refine ⟨E, g, x1, e2, e3, ⟨⟨_, _, e2, e3⟩, hw, fun q hq ho => ?_⟩, ?_⟩
  · rw [e3]
    intro t ht hlt'
    rcases List.mem_append.mp ht with ht | ht
    · exact ho t ht hlt'
    · rw [List.mem_singleton] at ht; subst ht; exact hq
  · rw [e3]
    intro t ht hlt'
    rcases List.mem_append.mp ht with ht | ht
    · have := (w.2.2.2.1 t ht).1; omega
    · rw [List.mem_singleton] at ht; subst ht
      simp only [] at hlt'; omega
theorem exq_pr {u : Int → Int} {N par br b : Int} {Q : Qs} {E : List (Int × Int)} {e : Int} (e2 : (exq u N par br Q).1.2 = Q.1.2 ++ (knd u Q.1.1, vr u Q.1.1) :: E) (e3 : (exq u N par br Q).2 = Q.2 ++ [((Q.1.2.length : Int), par, br, e)]) (hb : b = 0 ∨ (b = 1 ∧ knd u Q.1.1 = 1)) : PrO (exq u N par br Q).1.2 (exq u N par br Q).2 (Q.1.2.length : Int) b := by
  refine Or.inr ⟨((Q.1.2.length : Int), par, br, e), by rw [e3]; exact List.mem_append_right _ (List.mem_singleton.mpr rfl), rfl, ?_⟩
  rw [e2]
  show b = 0 ∨ (b = 1 ∧ kdl (Q.1.2 ++ (knd u Q.1.1, vr u Q.1.1) :: E) (Q.1.2.length : Int) = 1)
  rw [kdl_at]; exact hb
theorem rst_ok {u : Int → Int} {N : Int} : ∀ (f : Nat) (par br dep : Int) (Q : Qs), 0 ≤ dep → dep ≤ 4 → 5 - dep ≤ f → GP N Q.1 → Q.1.1.2.2.2.2 = 0 → WLs Q.1.2 Q.2 → Opn Q.2 par → PrO Q.1.2 Q.2 par br → (rst u N f par br dep Q).1.1.2.2.2.2 = 0 → ¬ knd u Q.1.1 = -1 ∧ Q.2.length < 20 ∧ (exq u N par br Q).1.1.2.2.2.2 = 0 ∧ Rl (Q.1.2.length : Int) (exq u N par br Q) (rst u N f par br dep Q) := by
  intro f
  induction f with
  | zero => intro par br dep Q d0 d4 hf; omega
  | succ f ih =>
    intro par br dep Q d0 d4 hf h h0 w o p ha
    unfold rst at ha ⊢
    by_cases a : knd u Q.1.1 = -1
    · rw [if_pos a] at ha; exact absurd ha (refu_no h.1 h0 (by decide))
    rw [if_neg a] at ha ⊢
    by_cases b : 20 ≤ Q.2.length
    · rw [if_pos b] at ha; exact absurd ha (refu_no h.1 h0 (by decide))
    rw [if_neg b] at ha ⊢
    refine ⟨a, by omega, ?_⟩
    by_cases c : knd u Q.1.1 = 0 ∨ knd u Q.1.1 = 3
    · rw [if_pos c] at ha ⊢
      have hx := al_xm ha
      obtain ⟨E, g, -, e2, e3, r, o2⟩ := exq_ok h h0 a (by omega) w o p hx
      exact ⟨hx, Rl.rf r.2.1 rfl rfl⟩
    rw [if_neg c] at ha ⊢
    have hgp : ∀ b' Q, GP N Q.1 → GP N (rst u N f b' br dep Q).1 := fun b' Q hQ => rst_GP f _ _ _ Q hQ
    have inner : ∀ (k b' : Int), dep < 4 → ∀ Q : Qs, GP N Q.1 → Q.1.1.2.2.2.2 = 0 → WLs Q.1.2 Q.2 → Opn Q.2 k → PrO Q.1.2 Q.2 k b' → (rst u N f k b' (dep + 1) Q).1.1.2.2.2.2 = 0 → Rl k Q (rst u N f k b' (dep + 1) Q) := by
      intro k b' hd Q h h0 w o p ha
      obtain ⟨q1, q2, q3, q4⟩ := ih k b' (dep + 1) Q (by omega) (by omega) (by omega) h h0 w o p ha
      obtain ⟨E, g, -, e2, e3, r, o2⟩ := exq_ok h h0 q1 q2 w o p q3
      have := p.lt w
      exact r.tr (q4.dn (by omega))
    by_cases d : knd u Q.1.1 = 1 ∧ wdb u (rbl (rst u N f (Q.1.2.length : Int) 0 (dep + 1)) u N dep (exq u N par br Q)).1.1 (pm_txt 6) = true
    · rw [if_pos d] at ha ⊢
      have h5 := al_av (al_rb ha)
      have hx := al_rb h5
      obtain ⟨E, g, -, e2, e3, r, o2⟩ := exq_ok h h0 a (by omega) w o p hx
      have hG : GP N (exq u N par br Q).1 := (h.hd h0 a).rx
      obtain ⟨hd, -, r1⟩ := rbl_ok (fun Q hQ => rst_GP f _ _ _ Q hQ) (inner (Q.1.2.length : Int) 0) hG r.2.1 o2 (exq_pr e2 e3 (Or.inl rfl)) h5
      have hG2 : GP N (rbl (rst u N f (Q.1.2.length : Int) 0 (dep + 1)) u N dep (exq u N par br Q)).1 := rbl_GP (fun Q hQ => rst_GP f _ _ _ Q hQ) hG
      have p1 := r1.pr r.2.1 (exq_pr (b := 1) e2 e3 (Or.inr ⟨rfl, d.1⟩))
      generalize rbl (rst u N f (Q.1.2.length : Int) 0 (dep + 1)) u N dep (exq u N par br Q) = Q2 at *
      have hG3 : GP N (avq u N Q2).1 := hG2.av
      have r2 : Rl (Q.1.2.length : Int) Q2 (avq u N Q2) := Rl.rf r1.2.1 rfl rfl
      obtain ⟨-, -, r3⟩ := rbl_ok (fun Q hQ => rst_GP f _ _ _ Q hQ) (inner (Q.1.2.length : Int) 1) hG3 r2.2.1 (r1.2.2 _ (Int.le_refl _) o2) p1 ha
      exact ⟨hx, (r1.tr r2).tr r3⟩
    · rw [if_neg d] at ha ⊢
      have hx := al_rb ha
      obtain ⟨E, g, -, e2, e3, r, o2⟩ := exq_ok h h0 a (by omega) w o p hx
      have hG : GP N (exq u N par br Q).1 := (h.hd h0 a).rx
      obtain ⟨hd, -, r1⟩ := rbl_ok (fun Q hQ => rst_GP f _ _ _ Q hQ) (inner (Q.1.2.length : Int) 0) hG r.2.1 o2 (exq_pr e2 e3 (Or.inl rfl)) ha
      exact ⟨hx, r1⟩

/-! the other reader: statements, all of them -/
theorem hdp_WD {u : Int → Int} {N : Int} {S : Ps} (hS : SK N S.1) (hw : WD u S.1) : WD u (hdp u N S).1 := by
  unfold hdp
  by_cases k0 : knd u S.1 = 0
  · rw [if_pos k0]; exact (hw.av hS).xm hS.advk
  · rw [if_neg k0]; exact hw.av hS
theorem rstmB {L : Int → Int} {N : Int} {f : Nat} (hB : BQ L N f) : SQ L N (f + 1) := by
  intro p b dep Q M K h c d0 d4 hf hh lq w op pr hc1 hc2 hA hD
  have hlq := lq
  obtain ⟨⟨⟨hT, hr, hR⟩, hw, e8, e20⟩, ⟨h0, hSk, hle, hWD⟩, e19, e21⟩ := lq
  have n6 := hT.2.1.2
  have hpp := hSk.1
  have l20 := w.1.1
  have hpl := pr.lt w
  have hG := hlq.gp
  have hE : Hid (gI M 142 8 = 0) := e8
  have hE19 : Hid (gI M 142 19 = (Q.2.length : Int)) := e19
  clear e8 e20 e19 e21
  have hrst : rst (ub L) N (f + 1) p b dep Q = (if knd (ub L) Q.1.1 = -1 then rfq 1 Q else if 20 ≤ Q.2.length then rfq 2 Q
    else if knd (ub L) Q.1.1 = 0 ∨ knd (ub L) Q.1.1 = 3 then xmq (ub L) N 59 (exq (ub L) N p b Q)
    else if knd (ub L) Q.1.1 = 1 ∧ wdb (ub L) (rbl (rst (ub L) N f (Q.1.2.length : Int) 0 (dep + 1)) (ub L) N dep (exq (ub L) N p b Q)).1.1 (pm_txt 6) = true then rbl (rst (ub L) N f (Q.1.2.length : Int) 1 (dep + 1)) (ub L) N dep (avq (ub L) N (rbl (rst (ub L) N f (Q.1.2.length : Int) 0 (dep + 1)) (ub L) N dep (exq (ub L) N p b Q)))
    else rbl (rst (ub L) N f (Q.1.2.length : Int) 0 (dep + 1)) (ub L) N dep (exq (ub L) N p b Q)) := by
    conv => lhs; unfold rst
  rw [hrst] at hc1 hc2 hA hD
  clear hrst
  by_cases a : knd (ub L) Q.1.1 = -1
  · rw [if_pos a] at hc2 hD
    have rno := refu_no hSk h0 (k := 1) (by decide)
    have h3 := hc2 rno
    refine rwords (by omega) (by omega) hlq (fun _ => (hD rno).1 _ (Fr.rf.up _ (by simp [qS, qE])) ?_) (fun z => absurd a z)
    rw [gI_eq]
    show 8 * Q.1.1.2.1 + 1 = (refu Q.1.1 1).2.2.2.2
    unfold refu; rw [if_pos h0]
  rw [if_neg a] at hc1 hc2 hA hD
  by_cases b20 : 20 ≤ Q.2.length
  · rw [if_pos b20] at hc2 hD
    have rno := refu_no hSk h0 (k := 2) (by decide)
    have h3 := hc2 rno
    refine rwords (by omega) (by omega) hlq (fun z => absurd z a) (fun _ => ?_)
    apply k12_statement_78_r (by omega)
    have e20 : gI M 142 19 = 20 := by rw [show gI M 142 19 = (Q.2.length : Int) from hE19]; omega
    rw [if_pos e20, show gI M 142 8 = 0 from hE, if_pos rfl, hr.2.1, bad_w ⟨by omega, by omega⟩ 2 (by decide)]
    refine (hD rno).1 _ (Fr.rf.up _ (by simp [qS, qE])) ?_
    rw [gI_eq]
    show 8 * Q.1.1.2.1 + 2 = (refu Q.1.1 2).2.2.2.2
    unfold refu; rw [if_pos h0]
  rw [if_neg b20] at hc1 hc2 hA hD
  have gx : GP N (exq (ub L) N p b Q).1 := (hG.hd h0 a).rx
  have wdx : WD (ub L) (exq (ub L) N p b Q).1.1 := WD.rx 36 0 0 (hdp (ub L) N Q.1) (hG.hd h0 a) (hdp_WD hSk hWD)
  -- a dead expression
  have deadx : ¬ (exq (ub L) N p b Q).1.1.2.2.2.2 = 0 → (3 ≤ c) ∧ ∀ M', Fr (qS 0) M M' → gI M' 142 8 = (exq (ub L) N p b Q).1.1.2.2.2.2 → K 0 M' := by
    intro z
    have z1 : (exq (ub L) N p b Q).1.1.2.2.1 = 1 := gx.1.2.1 z
    have nw : ¬ wdb (ub L) (exq (ub L) N p b Q).1.1 (pm_txt 6) = true := fun y => by have := (wdb_iff.mp y).1; omega
    by_cases k03 : knd (ub L) Q.1.1 = 0 ∨ knd (ub L) Q.1.1 = 3
    · rw [if_pos k03, xmq_dead z] at hc2 hD
      have := hc2 z
      exact ⟨by omega, (hD z).1⟩
    · rw [if_neg k03, rbl_dead z, if_neg (fun y => nw y.2)] at hc2 hD
      have := hc2 z
      exact ⟨by omega, (hD z).1⟩
  by_cases zx : (exq (ub L) N p b Q).1.1.2.2.2.2 = 0
  case neg =>
    exact rhead (br := b) (by omega) (deadx zx).1 hlq a (by omega) (by omega) (fun z => absurd z zx) (fun _ => (deadx zx).2)
  obtain ⟨E, g, xE, e2, e3, r, o2⟩ := exq_ok hG h0 a (by omega) w op pr zx
  have Epos := xE.vld'.1
  have wx := r.2.1
  have lx : (exq (ub L) N p b Q).2.length = Q.2.length + 1 := by rw [e3, List.length_append]; rfl
  have nx : (exq (ub L) N p b Q).1.2.length = Q.1.2.length + (E.length + 1) := by rw [e2, List.length_append, List.length_cons]
  have hl1 : ∀ t ∈ (exq (ub L) N p b Q).2, t.1 < (Q.1.2.length : Int) ∨ t = ((Q.1.2.length : Int), p, b, (Q.1.2.length : Int) + (E.length : Int)) := by
    intro t ht
    rw [e3] at ht
    rcases List.mem_append.mp ht with q | q
    · have := (w.2.2.2.1 t q).1; exact Or.inl (by omega)
    · exact Or.inr (List.mem_singleton.mp q)
  have prx0 := exq_pr (b := 0) e2 e3 (Or.inl rfl)
  have prx1 : knd (ub L) Q.1.1 = 1 → PrO (exq (ub L) N p b Q).1.2 (exq (ub L) N p b Q).2 (Q.1.2.length : Int) 1 := fun k1 => exq_pr (b := 1) e2 e3 (Or.inr ⟨rfl, k1⟩)
  have hkk : 0 ≤ (Q.1.2.length : Int) ∧ (Q.1.2.length : Int) < (Q.1.2.length : Int) + (E.length : Int) ∧ (Q.1.2.length : Int) + (E.length : Int) < (((exq (ub L) N p b Q).1.2.length : Nat) : Int) := by rw [nx]; omega
  have elast : (((exq (ub L) N p b Q).1.2.length : Nat) : Int) - 1 = (Q.1.2.length : Int) + (E.length : Int) := by rw [nx]; omega
  have hc3 : 3 ≤ c := by
    by_cases k03 : knd (ub L) Q.1.1 = 0 ∨ knd (ub L) Q.1.1 = 3
    · rw [if_pos k03] at hc1 hc2
      by_cases z : (xmq (ub L) N 59 (exq (ub L) N p b Q)).1.1.2.2.2.2 = 0
      · have h5 := hc1 z
        have h6 : (xmq (ub L) N 59 (exq (ub L) N p b Q)).2.length = Q.2.length + 1 := lx
        omega
      · have := hc2 z; omega
    · rw [if_neg k03] at hc1 hc2
      generalize hQf : (if knd (ub L) Q.1.1 = 1 ∧ wdb (ub L) (rbl (rst (ub L) N f (Q.1.2.length : Int) 0 (dep + 1)) (ub L) N dep (exq (ub L) N p b Q)).1.1 (pm_txt 6) = true then rbl (rst (ub L) N f (Q.1.2.length : Int) 1 (dep + 1)) (ub L) N dep (avq (ub L) N (rbl (rst (ub L) N f (Q.1.2.length : Int) 0 (dep + 1)) (ub L) N dep (exq (ub L) N p b Q))) else rbl (rst (ub L) N f (Q.1.2.length : Int) 0 (dep + 1)) (ub L) N dep (exq (ub L) N p b Q)) = Qf at *
      by_cases z : Qf.1.1.2.2.2.2 = 0
      · have h5 := hc1 z
        have hro : (rst (ub L) N (f + 1) p b dep Q) = Qf := by
          conv => lhs; unfold rst
          rw [if_neg a, if_neg b20, if_neg k03]; exact hQf
        have h6 := (rst_mem d0 d4 hf hG h0 w op pr (by rw [hro]; exact z)).2.2.2.2.2.2.2.2
        rw [hro] at h6
        omega
      · have := hc2 z; omega
  refine rhead (br := b) (by omega) hc3 hlq a (by omega) (by omega) (fun _ M2 f2 lv2 hc hF hX => ?_) (fun z => absurd zx z)
  rw [elast] at hX
  have lqx : LQ L N dep (exq (ub L) N p b Q) M2 := lv2.lq (l := (exq (ub L) N p b Q).2) wdx (by rw [hc.1]; show (Q.2.length : Int) + 1 = ((exq (ub L) N p b Q).2.length : Int); rw [lx]; omega) hc.2
  have f2' : Fr (qS 0) M M2 := f2.mono (fun a i y => qS_mono (Nat.zero_le _) y)
  unfold Tl
  by_cases k03 : knd (ub L) Q.1.1 = 0 ∨ knd (ub L) Q.1.1 = 3
  · rw [if_pos k03] at hA hD
    have sg : k12_sign 59 M2 (fun r32 M31 => ((r32 = 0 ∨ r32 = 1) ∧ K r32 M31)) := by
      refine signL (by decide) lv2 ?_ ?_ ?_
      · intro s5 sc z2 M3 f3 lv3
        have ex : exm (ub L) N 59 (exq (ub L) N p b Q).1.1 = adv (ub L) N (exq (ub L) N p b Q).1.1 := by unfold exm; rw [if_pos ⟨s5, sc⟩]
        have eQ : xmq (ub L) N 59 (exq (ub L) N p b Q) = ((adv (ub L) N (exq (ub L) N p b Q).1.1, (exq (ub L) N p b Q).1.2), (exq (ub L) N p b Q).2) := by unfold xmq; rw [ex]
        rw [eQ] at hA
        have k3 : ∀ a i, a ≠ 142 → gI M3 a i = gI M2 a i := fun a i q => f3.g (by simp [q7, q])
        refine ⟨Or.inr rfl, hA z2 M3 (f2.trans (f3.mono (fun a i y => q7_S y))) (lv3.lq (wdx.av gx.1) (by rw [f3.g rfl]; exact lqx.2.2.1) (by rw [f3.g rfl]; exact hc.2)) (fun t ht hn => ?_) (fun t ht hn => ?_) (by rw [k3 _ _ (by decide)]; exact hF.2.2.2.2)⟩
        · rcases hl1 t ht with q | q
          · omega
          · subst q
            refine head_rd hF hX hkk (fun a _ _ j _ _ => k3 _ _ (by omega)) ?_ ?_
            · rw [k3 _ _ (by decide), hF.2.2.1]
              refine Or.inl ⟨rfl, fun s hs y => ?_⟩
              rcases hl1 s hs with q | q
              · omega
              · rw [q] at y; simp only [] at y; omega
            · rw [k3 _ _ (by decide), hF.2.2.2.1]
              refine Or.inl ⟨rfl, fun s hs y => ?_⟩
              rcases hl1 s hs with q | q
              · omega
              · rw [q] at y; simp only [] at y; omega
        · rcases hl1 t ht with q | q
          · omega
          · rw [q] at hn; simp only [] at hn; omega
      · intro s5 sc z2 M3 f3 t3 p3 e3'
        have eQ : (xmq (ub L) N 59 (exq (ub L) N p b Q)).1.1 = adv (ub L) N (exq (ub L) N p b Q).1.1 := by
          show exm (ub L) N 59 (exq (ub L) N p b Q).1.1 = _
          unfold exm; rw [if_pos ⟨s5, sc⟩]
        have hd2 := (hD (by rw [eQ]; exact z2)).2
        rw [eQ] at hd2
        exact ⟨Or.inr rfl, hd2 M3 (f2'.trans (f3.mono (fun a i y => q7_S y))) t3 p3 e3'⟩
      · intro hno
        have rno := refu_no gx.1 zx (k := 1) (by decide)
        have eQ : (xmq (ub L) N 59 (exq (ub L) N p b Q)).1.1 = refu (exq (ub L) N p b Q).1.1 1 := by
          show exm (ub L) N 59 (exq (ub L) N p b Q).1.1 = _
          unfold exm; rw [if_neg hno]; exact adv_dead rno
        have hd1 := (hD (by rw [eQ]; exact rno)).1
        rw [eQ] at hd1
        refine ⟨Or.inl rfl, hd1 _ (f2'.up _ (by simp [qS, qE])) ?_⟩
        rw [gI_eq]
        unfold refu; rw [if_pos zx]
    by_cases k0 : knd (ub L) Q.1.1 = 0
    · rw [if_neg (knd_w.1 k0).2.2.2]; exact sg
    · have k3 := k03.resolve_left k0
      obtain ⟨-, -, q5, qv⟩ := knd_w.2.2.2.1 k3
      rw [if_pos qv, if_pos q5, if_neg (by decide)]; exact sg
  rw [if_neg k03] at hc1 hc2 hA hD
  have kr := (knd_rng (ub L) Q.1.1).resolve_left a
  have k12' : knd (ub L) Q.1.1 = 1 ∨ knd (ub L) Q.1.1 = 2 := by omega
  have qv : vr (ub L) Q.1.1 = -1 := by
    rcases k12' with k | k
    · exact (knd_w.2.1 k).2.2.2
    · exact (knd_w.2.2.1 k).2.2.2
  have q5 : ¬ wdb (ub L) Q.1.1 (pm_txt 5) = true := by
    rcases k12' with k | k
    · exact (knd_w.2.1 k).2.2.1
    · exact (knd_w.2.2.1 k).2.2.1
  rw [if_pos qv, if_neg q5, if_pos rfl]
  have j0 : J0 (Q.1.2.length : Int) 0 (exq (ub L) N p b Q).1.2.length (exq (ub L) N p b Q).2 := by
    refine ⟨⟨by omega, by omega⟩, fun t ht => ?_, fun t ht y => ?_⟩
    · have := (wx.2.2.2.1 t ht).1; omega
    · rcases hl1 t ht with q | q
      · omega
      · rw [q] at y; simp only [] at y; omega
  have fs0 : FiS (exq (ub L) N p b Q).2 (Q.1.2.length : Int) 0 ((Q.1.2.length : Int) + 1) (gI M2 150 (100 + (Q.1.2.length : Int))) := by
    rw [hF.2.2.1]
    exact Or.inl ⟨rfl, j0.2.2⟩
  have g2 : GP N (rbl (rst (ub L) N f (Q.1.2.length : Int) 0 (dep + 1)) (ub L) N dep (exq (ub L) N p b Q)).1 := rbl_GP (fun Q hQ => rst_GP f _ _ _ Q hQ) gx
  have hB0 := hB (Q.1.2.length : Int) 0 dep 150 (exq (ub L) N p b Q) M2
  have rk : (rbl (rst (ub L) N f (Q.1.2.length : Int) 0 (dep + 1)) (ub L) N dep (exq (ub L) N p b Q)).1.1.2.2.2.2 = 0 → Rl (Q.1.2.length : Int) (exq (ub L) N p b Q) (rbl (rst (ub L) N f (Q.1.2.length : Int) 0 (dep + 1)) (ub L) N dep (exq (ub L) N p b Q)) := fun z => (rbl_ok (fun Q hQ => rst_GP f _ _ _ Q hQ) (fun hd Q hQ hz hw ho hp ha => (rst_keep (by omega) (by omega) (by omega) hQ (fun _ => ⟨hw, ho, hp⟩) ha).2) gx wx o2 prx0 z).2.2
  generalize rbl (rst (ub L) N f (Q.1.2.length : Int) 0 (dep + 1)) (ub L) N dep (exq (ub L) N p b Q) = Q2 at *
  by_cases z2 : Q2.1.1.2.2.2.2 = 0
  case neg =>
    have nw : ¬ wdb (ub L) Q2.1.1 (pm_txt 6) = true := fun y => by have := (wdb_iff.mp y).1; have := g2.1.2.1 z2; omega
    rw [if_neg (fun y => nw y.2)] at hc2 hD
    have h5 := hc2 z2
    refine ⟨c - 3 - 1, 1, by omega, hB0 _ (h - 1) _ (Or.inl rfl) d0 d4 (by omega) (by omega) (by omega) lqx wx o2 prx0 j0 fs0 (fun z => absurd z z2) (fun _ => by rw [lx]; omega) (fun z => absurd z z2) (fun _ => ⟨fun M3 f3 e3' => ?_, fun M3 f3 t3 p3 e3' => ?_⟩)⟩
    · show (if (0 : Int) = 0 then _ else _)
      rw [if_pos rfl]
      exact ⟨Or.inl rfl, (hD z2).1 M3 (f2'.trans f3) e3'⟩
    · show (if (1 : Int) = 0 then _ else _)
      rw [if_neg (by decide)]
      have hK := (hD z2).2 M3 (f2'.trans f3) t3 p3 e3'
      by_cases q3 : wdb (ub L) Q.1.1 (pm_txt 3) = true
      · rw [if_pos q3, if_neg (by decide)]
        refine ⟨1, 0, by decide, rwordN_r (Nat.le_refl _) p3.1 (by decide) ?_⟩
        rw [if_pos rfl]
        exact ⟨Or.inr rfl, hK⟩
      · rw [if_neg q3, if_pos rfl]
        exact ⟨Or.inr rfl, hK⟩
  have r2 := rk z2
  have w2 := r2.2.1
  have l2 : Q.2.length + 1 ≤ Q2.2.length := by
    obtain ⟨⟨X, D, -, e5⟩, -⟩ := r2
    rw [e5, List.length_append, lx]; omega
  have l220 := w2.1.1
  have hcA : 7 * Q2.2.length ≤ c + 7 * Q.2.length ∨ 150 ≤ c + 7 * Q.2.length := by
    by_cases d : knd (ub L) Q.1.1 = 1 ∧ wdb (ub L) Q2.1.1 (pm_txt 6) = true
    · rw [if_pos d] at hc1 hc2
      by_cases z : (rbl (rst (ub L) N f (Q.1.2.length : Int) 1 (dep + 1)) (ub L) N dep (avq (ub L) N Q2)).1.1.2.2.2.2 = 0
      · have h5 := hc1 z
        have gA : GP N (avq (ub L) N Q2).1 := g2.av
        have r3 := (rbl_ok (fun Q hQ => rst_GP f _ _ _ Q hQ) (fun hd Q hQ hz hw ho hp ha => (rst_keep (by omega) (by omega) (by omega) hQ (fun _ => ⟨hw, ho, hp⟩) ha).2) gA w2 (r2.2.2 _ (Int.le_refl _) o2) (r2.pr wx (prx1 d.1)) z).2.2
        obtain ⟨⟨X, D, -, e5⟩, -⟩ := r3
        rw [e5, List.length_append] at h5
        have : (avq (ub L) N Q2).2.length = Q2.2.length := rfl
        exact Or.inl (by omega)
      · exact Or.inr (hc2 z)
    · rw [if_neg d] at hc1
      exact Or.inl (hc1 z2)
  refine ⟨7 * Q2.2.length - 7 * (Q.2.length + 1), c - 3 - (7 * Q2.2.length - 7 * (Q.2.length + 1)), by omega, hB0 _ (h - 1) _ (Or.inl rfl) d0 d4 (by omega) (by omega) (by omega) lqx wx o2 prx0 j0 fs0 (fun _ => by rw [lx]; omega) (fun z => absurd z2 z) (fun _ M3 f3 lq3 rp3 => ?_) (fun z => absurd z2 z)⟩
  show (if (1 : Int) = 0 then _ else _)
  rw [if_neg (by decide)]
  have f03 : Fr (qS Q.1.2.length) M M3 := f2.trans (f3.mono (fun a i y => by
    simp only [qW, Bool.or_eq_true] at y
    rcases y with y | y
    · exact qS_mono (by omega) y
    · simp only [Bool.and_eq_true, beq_iff_eq, decide_eq_true_eq] at y
      simp [qS, qE]; omega))
  have f03' : Fr (qS 0) M M3 := f03.mono (fun a i y => qS_mono (Nat.zero_le _) y)
  -- one block alone
  have one : ¬ (knd (ub L) Q.1.1 = 1 ∧ wdb (ub L) Q2.1.1 (pm_txt 6) = true) → K 1 M3 := by
    intro d
    rw [if_neg d] at hA
    obtain ⟨b1, b2, b3, -⟩ := asmA hkk hl1 hF hX f3 rp3
    exact hA z2 M3 f03 lq3 b1 b2 b3
  by_cases q3 : wdb (ub L) Q.1.1 (pm_txt 3) = true
  case neg =>
    rw [if_neg q3, if_pos rfl]
    have k2 : ¬ knd (ub L) Q.1.1 = 1 := fun y => q3 (knd_w.2.1 y).1
    exact ⟨Or.inr rfl, one (fun y => k2 y.1)⟩
  rw [if_pos q3, if_neg (by decide)]
  have k1 : knd (ub L) Q.1.1 = 1 := by
    rcases k12' with k | k
    · exact k
    · exact absurd q3 (knd_w.2.2.1 k).1
  obtain ⟨⟨⟨hT3, hr3, hR3⟩, hw3, e83, e203⟩, ⟨h03, hS3, hle3, hWD3⟩, e193, e213⟩ := lq3
  refine ⟨1, c - 3 - (7 * Q2.2.length - 7 * (Q.2.length + 1)) - 1, by omega, rw6 (Nat.le_refl _) hT3 hr3 hS3 hWD3 ?_⟩
  by_cases d : wdb (ub L) Q2.1.1 (pm_txt 6) = true
  case neg =>
    rw [if_neg d, if_pos rfl]
    exact ⟨Or.inr rfl, one (fun y => d y.2)⟩
  rw [if_pos d, if_neg (by decide)]
  rw [if_pos ⟨k1, d⟩] at hc1 hc2 hA hD
  have ty2 := (wdb_iff.mp d).1
  refine goL (d := 0) (s := Q2.1.1) (l := Q2.1.2) hT3 hr3.1 hS3 h03 (by omega) (by omega) hR3 hw3 e83 e203 ?_ ?_
  · intro z4 M4 f4 lv4
    have k4 : ∀ a i, a ≠ 142 → gI M4 a i = gI M3 a i := fun a i q => f4.g (by simp [q7, q])
    have lq4 : LQ L N dep (avq (ub L) N Q2) M4 := lv4.lq (hWD3.av hS3) (by rw [f4.g rfl]; exact e193) (by rw [f4.g rfl]; exact e213)
    clear e83 e203 e193 e213
    have g4 : GP N (avq (ub L) N Q2).1 := g2.av
    have oK := r2.2.2 _ (Int.le_refl _) o2
    have rp3' := rp3
    obtain ⟨⟨-, -, -, hn1⟩, -, -, -, s2⟩ := rp3'
    have noM : ∀ t ∈ Q2.2, ¬ ((Q.1.2.length : Int) + 1 ≤ t.1 ∧ t.2.1 = (Q.1.2.length : Int) ∧ t.2.2.1 = 1) := by
      intro t ht y
      rcases s2 t ht with q | ⟨q, q2 | q2⟩
      · rcases hl1 t q with q' | q'
        · omega
        · rw [q'] at y; simp only [] at y; omega
      · omega
      · omega
    have j1 : J0 (Q.1.2.length : Int) 1 (avq (ub L) N Q2).1.2.length (avq (ub L) N Q2).2 := by
      refine ⟨⟨by omega, ?_⟩, fun t ht => ?_, noM⟩
      · show (Q.1.2.length : Int) < (Q2.1.2.length : Int)
        omega
      · have := (w2.2.2.2.1 t ht).1
        show t.1 < (Q2.1.2.length : Int)
        omega
    have fs1 : FiS (avq (ub L) N Q2).2 (Q.1.2.length : Int) 1 ((Q.1.2.length : Int) + 1) (gI M4 151 (100 + (Q.1.2.length : Int))) := by
      rw [k4 _ _ (by decide), (asmA hkk hl1 hF hX f3 rp3).2.2.2]
      exact Or.inl ⟨rfl, noM⟩
    have la : (avq (ub L) N Q2).2.length = Q2.2.length := rfl
    refine ⟨c - 3 - (7 * Q2.2.length - 7 * (Q.2.length + 1)) - 1, 0, by omega, hB (Q.1.2.length : Int) 1 dep 151 (avq (ub L) N Q2) M4 _ (h - 1) _ (Or.inr rfl) d0 d4 (by omega) (by omega) (by omega) lq4 w2 oK (r2.pr wx (prx1 k1)) j1 fs1 (fun z => by have := hc1 z; rw [la]; omega) (fun z => by have := hc2 z; rw [la]; omega) (fun z M5 f5 lq5 rp5 => ?_) (fun z => ⟨fun M5 f5 e5 => ?_, fun M5 f5 t5 p5 e5 => ?_⟩)⟩
    · obtain ⟨b1, b2, b3⟩ := asmB hkk hl1 hF hX f3 rp3 k4 f5 rp5
      refine ⟨Or.inr rfl, hA z M5 ((f03.trans (f4.mono (fun a i y => q7_S y))).trans (f5.mono (fun a i y => ?_))) lq5 b1 b2 b3⟩
      simp only [qW, Bool.or_eq_true] at y
      rcases y with y | y
      · refine qS_mono ?_ y
        show Q.1.2.length ≤ Q2.1.2.length
        omega
      · simp only [Bool.and_eq_true, beq_iff_eq, decide_eq_true_eq] at y
        simp [qS, qE]; omega
    · exact ⟨Or.inl rfl, (hD z).1 M5 ((f03'.trans (f4.mono (fun a i y => q7_S y))).trans f5) e5⟩
    · exact ⟨Or.inr rfl, (hD z).2 M5 ((f03'.trans (f4.mono (fun a i y => q7_S y))).trans f5) t5 p5 e5⟩
  · intro z4 M4 f4 t4 p4 e4
    have dA : ¬ (avq (ub L) N Q2).1.1.2.2.2.2 = 0 := z4
    rw [rbl_dead dA] at hD
    refine ⟨0, 0, by omega, pnd_blk (Or.inr rfl) (by omega) p4 ⟨Or.inl rfl, (hD dA).1 _ ((f03'.trans (f4.mono (fun a i y => q7_S y))).up _ (by simp [qS, qE])) ?_⟩⟩
    rw [gI_eq]; exact e4.symm
theorem rstmAll {L : Int → Int} {N : Int} : ∀ f : Nat, SQ L N f ∧ BQ L N f := by
  intro f
  induction f with
  | zero =>
    have hS : SQ L N 0 := fun p b dep Q M K h c a1 a2 a3 => by omega
    exact ⟨hS, rblkB hS⟩
  | succ f ih =>
    have hS := rstmB ih.2
    exact ⟨hS, rblkB hS⟩

/-! the whole law -/
theorem zs_all : pm_S0.take 178 = pm_S0 := by decide +kernel
theorem zs_sz : pm_sz pm_S0 = 56129 := by decide +kernel
theorem pm_pure : pm_Pure := by
  intro L xs hL hx
  have h := law_loop (sc := (L, xs)) (d := 1000) (by decide) hL (fun j => (hx j).2) 512 0 (9, 0) (9, 0) zM (by decide) (by decide) (by decide) (by show (L : Int) - 0 < _; omega) (by decide) zl_inv
  obtain ⟨n, r, S', N', M', e, -, -, q1, q2, -, x, ex, x1⟩ := h zl_ly pm_S0 zM ⟨[], (List.append_nil _).symm⟩ pm_Ag.rf
  have w : FbX (L, xs) 1000 mL_law 0 [(4, 0), (9, 0), (9, 0), (9, 0), (9, 0), (9, 0), (9, 0)] [] (pm_S0.take 0) (fun _ _ => 0) (fun r S1 N1 => r = some (0, 1) ∧ S1 = S' ∧ N1 = N') := by
    refine z1_all ?_
    rw [zs_all]
    exact ⟨n, r, S', N', e, by rw [ex, x1], rfl, rfl⟩
  obtain ⟨n2, r2, S2, N2, e2, rfl, rfl, rfl⟩ := w
  refine ⟨n2, S2, N2, e2, ?_, ?_⟩
  · rw [zs_len] at q1; omega
  · rw [zs_sz] at q2; omega

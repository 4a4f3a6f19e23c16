theorem pm_lk0_ok : pm_lk0.all pm_ckL = true := by decide +kernel
theorem pm_lk1_ok : pm_lk1.all pm_ckL = true := by decide +kernel
theorem pm_lk2_ok : pm_lk2.all pm_ckL = true := by decide +kernel
theorem pm_lk3_ok : pm_lk3.all pm_ckL = true := by decide +kernel
theorem pm_lk4_ok : pm_lk4.all pm_ckL = true := by decide +kernel
theorem pm_lk5_ok : pm_lk5.all pm_ckL = true := by decide +kernel
theorem pm_lk6_ok : pm_lk6.all pm_ckL = true := by decide +kernel
theorem pm_lk7_ok : pm_lk7.all pm_ckL = true := by decide +kernel
theorem pm_lks_ok : ∀ e ∈ pm_lks, pm_ckL e = true := by
  intro e h
  simp only [pm_lks, List.mem_append] at h
  rcases h with ((((((h | h) | h) | h) | h) | h) | h) | h
  · exact List.all_eq_true.mp pm_lk0_ok e h
  · exact List.all_eq_true.mp pm_lk1_ok e h
  · exact List.all_eq_true.mp pm_lk2_ok e h
  · exact List.all_eq_true.mp pm_lk3_ok e h
  · exact List.all_eq_true.mp pm_lk4_ok e h
  · exact List.all_eq_true.mp pm_lk5_ok e h
  · exact List.all_eq_true.mp pm_lk6_ok e h
  · exact List.all_eq_true.mp pm_lk7_ok e h
def pm_ckF (e : Nat × Nat × Nat × Nat × Nat) : Bool := pm_ck [e.2.2.2.2] [.fieldLink (pm_own e.1) e.2.1 (pm_T e.2.2.1 e.2.2.2.1).1 (pm_T e.2.2.1 e.2.2.2.1).2.1 (pm_T e.2.2.1 e.2.2.2.1).2.2.1] && decide (e.2.2.1 < 13) && decide (e.2.2.2.1 < pm_N e.2.2.1)
theorem pm_fd0_ok : pm_fd0.all pm_ckF = true := by decide +kernel
theorem pm_fd1_ok : pm_fd1.all pm_ckF = true := by decide +kernel
theorem pm_fd2_ok : pm_fd2.all pm_ckF = true := by decide +kernel
theorem pm_fd3_ok : pm_fd3.all pm_ckF = true := by decide +kernel
theorem pm_fd4_ok : pm_fd4.all pm_ckF = true := by decide +kernel
theorem pm_fds_ok : ∀ e ∈ pm_fds, pm_ckF e = true := by
  intro e h
  simp only [pm_fds, List.mem_append] at h
  rcases h with (((h | h) | h) | h) | h
  · exact List.all_eq_true.mp pm_fd0_ok e h
  · exact List.all_eq_true.mp pm_fd1_ok e h
  · exact List.all_eq_true.mp pm_fd2_ok e h
  · exact List.all_eq_true.mp pm_fd3_ok e h
  · exact List.all_eq_true.mp pm_fd4_ok e h
def pm_ckC (e : Nat × Nat × Nat × Nat × Nat × Nat) : Bool := pm_ck [e.2.2.2.1, e.2.2.2.2.1, e.2.2.2.2.2] [.classLink (pm_own e.1) e.2.1 (pm_own e.2.2.1), .instantiable (pm_own e.2.2.1) (pm_N e.2.2.1), .initialized (pm_own e.2.2.1)] && decide (e.2.2.1 < 13)
theorem pm_cls_ok : pm_cls.all pm_ckC = true := by decide +kernel
theorem pm_grd_ok : pm_grd.all (fun e => pm_ck [e.2.2] [.classLink (pm_own e.1) e.2.1 ("[" ++ (FieldType.array FieldType.int).toString)]) = true := by decide +kernel
theorem pm_str_ok : pm_str.all (fun e => pm_ck [e.2.2.2] [.stringRef (pm_own e.1) e.2.1 e.2.2.1]) = true := by decide +kernel
theorem pm_con_ok : pm_con.all (fun e => pm_ck [e.2.2.2] [.constant (pm_own e.1) e.2.1 (Int32.ofInt e.2.2.1)]) = true := by decide +kernel
theorem pm_coL_ok : pm_coL.all (fun e => pm_ck [e.2.2.2] [.constantLong (pm_own e.1) e.2.1 (Int64.ofInt e.2.2.1)]) = true := by decide +kernel
theorem pm_arr_ok : pm_ck pm_pArr [.arrayClass .byte, .arrayClass .int, .arrayClass .long, .arrayClass .boolean] = true := by decide +kernel
theorem pm_over_ok : pm_ck [pm_pOver] [.arrayOver (.array .int)] = true := by decide +kernel
theorem pm_lay0_ok : pm_ck (pm_lay.getD 0 []) (u_ws (pm_own 0) (pm_T 0) (pm_N 0)) = true := by decide +kernel
theorem pm_lay1_ok : pm_ck (pm_lay.getD 1 []) (u_ws (pm_own 1) (pm_T 1) (pm_N 1)) = true := by decide +kernel
theorem pm_lay2_ok : pm_ck (pm_lay.getD 2 []) (u_ws (pm_own 2) (pm_T 2) (pm_N 2)) = true := by decide +kernel
theorem pm_lay3_ok : pm_ck (pm_lay.getD 3 []) (u_ws (pm_own 3) (pm_T 3) (pm_N 3)) = true := by decide +kernel
theorem pm_lay4_ok : pm_ck (pm_lay.getD 4 []) (u_ws (pm_own 4) (pm_T 4) (pm_N 4)) = true := by decide +kernel
theorem pm_lay5_ok : pm_ck (pm_lay.getD 5 []) (u_ws (pm_own 5) (pm_T 5) (pm_N 5)) = true := by decide +kernel
theorem pm_lay6_ok : pm_ck (pm_lay.getD 6 []) (u_ws (pm_own 6) (pm_T 6) (pm_N 6)) = true := by decide +kernel
theorem pm_lay7_ok : pm_ck (pm_lay.getD 7 []) (u_ws (pm_own 7) (pm_T 7) (pm_N 7)) = true := by decide +kernel
theorem pm_lay8_ok : pm_ck (pm_lay.getD 8 []) (u_ws (pm_own 8) (pm_T 8) (pm_N 8)) = true := by decide +kernel
theorem pm_lay9_ok : pm_ck (pm_lay.getD 9 []) (u_ws (pm_own 9) (pm_T 9) (pm_N 9)) = true := by decide +kernel
theorem pm_lay10_ok : pm_ck (pm_lay.getD 10 []) (u_ws (pm_own 10) (pm_T 10) (pm_N 10)) = true := by decide +kernel
theorem pm_lay11_ok : pm_ck (pm_lay.getD 11 []) (u_ws (pm_own 11) (pm_T 11) (pm_N 11)) = true := by decide +kernel
theorem pm_lay12_ok : pm_ck (pm_lay.getD 12 []) (u_ws (pm_own 12) (pm_T 12) (pm_N 12)) = true := by decide +kernel

/-! every step that goes on at once -/
section PMS
variable {p : Program} {l : Launch} {e : Env} {R : Room} {s : State} {m : MethodId} {args : Array Value} {below : List Frame} {meth : Method} {c : Code} {H : Heap} {locs : List Loc} {cells slots : Nat} {Q : State → Prop}
variable {E : pm_E} {D : va_G} {cs : Nat → ClassId} {sc : Nat × (Nat → Int)} {me : pm_Me} {d pc len : Nat} {ls st t : List pm_V} {S : pm_S} {M : pm_M} {Ls : Array Slot} {q : Nat × List pm_V × List pm_V × pm_S × pm_M}
theorem pm_stepS (C : pm_C E D cs sc p R s m args meth c me d) (h : pm_step sc me pc ls st S M = some (.inl q)) (Y : pm_Y E D cs s me S M ls st H locs Ls) (hrc : cells + (q.2.2.2.1.length - S.length) ≤ R.cells) (hrs : slots + (pm_sz q.2.2.2.1 - pm_sz S) ≤ R.slots) (k : pm_k E D cs p l e R s m args below meth c me Q cells slots S q) : W p l e R s m args below meth c H locs cells slots Q (F0 m pc Ls (st.map (pm_v E))) := by
  unfold pm_step at h
  split at h
  · rename_i i len hdg
    cases i with
    | iconst x => exact pi_iconst C hdg h Y k
    | bipush x => exact pi_bipush C hdg h Y k
    | sipush x => exact pi_sipush C hdg h Y k
    | lconst x => exact pi_lconst C hdg h Y k
    | ldc x => exact pi_ldc C hdg h Y k
    | ldc_w x => exact pi_ldc_w C hdg h Y k
    | ldc2_w x => exact pi_ldc2_w C hdg h Y k
    | getstatic x => exact pi_getstatic C hdg h Y k
    | iload x => exact pi_iload C hdg h Y k
    | iload_n x => exact pi_iload_n C hdg h Y k
    | lload x => exact pi_lload C hdg h Y k
    | lload_n x => exact pi_lload_n C hdg h Y k
    | aload x => exact pi_aload C hdg h Y k
    | aload_n x => exact pi_aload_n C hdg h Y k
    | istore x => exact pi_istore C hdg h Y k
    | istore_n x => exact pi_istore_n C hdg h Y k
    | astore x => exact pi_astore C hdg h Y k
    | astore_n x => exact pi_astore_n C hdg h Y k
    | lstore_n x => exact pi_lstore_n C hdg h Y k
    | iinc x n => exact pi_iinc C hdg h Y k
    | iadd => exact pi_iadd C hdg h Y k
    | isub => exact pi_isub C hdg h Y k
    | imul => exact pi_imul C hdg h Y k
    | iand => exact pi_iand C hdg h Y k
    | ior => exact pi_ior C hdg h Y k
    | ixor => exact pi_ixor C hdg h Y k
    | ishl => exact pi_ishl C hdg h Y k
    | ishr => exact pi_ishr C hdg h Y k
    | iushr => exact pi_iushr C hdg h Y k
    | idiv => exact pi_idiv C hdg h Y k
    | irem => exact pi_irem C hdg h Y k
    | ineg => exact pi_ineg C hdg h Y k
    | i2b => exact pi_i2b C hdg h Y k
    | i2c => exact pi_i2c C hdg h Y k
    | i2l => exact pi_i2l C hdg h Y k
    | land => exact pi_land C hdg h Y k
    | lor => exact pi_lor C hdg h Y k
    | lshl => exact pi_lshl C hdg h Y k
    | lshr => exact pi_lshr C hdg h Y k
    | lcmp => exact pi_lcmp C hdg h Y k
    | dup => exact pi_dup C hdg h Y k
    | pop => exact pi_pop C hdg h Y k
    | dup2 => exact pi_dup2 C hdg h Y k
    | goto x => exact pi_goto C hdg h Y k
    | ifCond x y => exact pi_ifCond C hdg h Y k
    | if_icmp x y => exact pi_if_icmp C hdg h Y k
    | tableswitch x y z u => exact pi_tableswitch C hdg h Y k
    | lookupswitch x y => exact pi_lookupswitch C hdg h Y k
    | getfield x => exact pi_getfield C hdg h Y k
    | putfield x => exact pi_putfield C hdg h Y k
    | iaload => exact pi_iaload C hdg h Y k
    | baload => exact pi_baload C hdg h Y k
    | laload => exact pi_laload C hdg h Y k
    | aaload => exact pi_aaload C hdg h Y k
    | iastore => exact pi_iastore C hdg h Y k
    | bastore => exact pi_bastore C hdg h Y k
    | lastore => exact pi_lastore C hdg h Y k
    | arraylength => exact pi_arraylength C hdg h Y k
    | newarray x => exact pi_newarray C hdg h Y hrc hrs k
    | multianewarray x y => exact pi_multianewarray C hdg h Y hrc hrs k
    | new x => exact pi_new C hdg h Y hrc hrs k
    | invokevirtual x => exact pi_invokevirtual C hdg h Y hrc hrs k
    | invokestatic x => exact pi_invokestatic C hdg h Y hrc hrs k
    | invokespecial x => exact pi_invokespecial C hdg h Y hrc hrs k
    | ireturn =>
      simp only [pm_ins] at h
      split at h
      · split at h <;> cases h
      · cases h
    | lreturn =>
      simp only [pm_ins] at h
      split at h
      · split at h <;> cases h
      · cases h
    | return_ =>
      simp only [pm_ins] at h
      split at h <;> cases h
    | _ => cases h
  · cases h
end PMS

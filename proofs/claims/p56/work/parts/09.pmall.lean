/-! PM: all steps in one row (written by wip/whole/gen_pmall.py) -/
section PMS4
variable {p : Program} {l : Launch} {e : Env} {R : Room} {s : State} {m : MethodId} {args : Array Value} {below : List Frame} {meth : Method} {c0 : Code} {H H0 : Heap} {locs : List Loc} {cells slots : Nat} {Q : State → Prop}
variable {cc : ByteArray} {ls : Array Slot} {A : Nat → Prop} {D : va_G} {nL : Nat} {ad : Nat → Nat} {cA : Nat → ClassId} {pc : Nat} {L : List (Option Value)} {S : pmS} {st rest : List Value}
theorem pm_step_ok {b n : Nat} {i : Instr} {x : Nat × Nat} {c' : pmC} {ps : List Prop} {own : String} {ini : Bool} (hdg : decode cc pc = .ok (i, pmIl i n)) (h : pmStep b i x (pc, L, st, S) = some (c', ps)) (hp : ∀ P ∈ ps, P) (hws : ∀ w ∈ pmWs own i x, w.before args s = true) (hok : pmOk ini own i x = true) (hini : ini = true → meth.name = "<init>") (hown : s.vm.findClass own = some m.cls) (hK : va_K D pmCl (pmTs cA) s) (hexec : p.tables.exec = Jvm.exec) (hb : c0.code = cc) (hr : pmRel D A H0 nL ad cA (pc, L, st, S) H locs ls) (kk : pmKk p l e R s m args below meth c0 cells slots Q D A H0 nL ad cA c') : W p l e R s m args below meth c0 H locs cells slots Q (F0 m pc ls (st.map (pmRe ad))) := by
  unfold pmStep at h
  split at h
  · exact pms_aload_n hdg h hexec hb hr kk
  · exact pms_aload hdg h hexec hb hr kk
  · exact pms_iload_n hdg h hexec hb hr kk
  · exact pms_iload hdg h hexec hb hr kk
  · exact pms_lload_n hdg h hexec hb hr kk
  · exact pms_lload hdg h hexec hb hr kk
  · exact pms_fload_n hdg h hexec hb hr kk
  · exact pms_fload hdg h hexec hb hr kk
  · exact pms_dload_n hdg h hexec hb hr kk
  · exact pms_dload hdg h hexec hb hr kk
  · exact pms_astore_n hdg h hexec hb hr kk
  · exact pms_astore hdg h hexec hb hr kk
  · exact pms_istore_n hdg h hexec hb hr kk
  · exact pms_istore hdg h hexec hb hr kk
  · exact pms_lstore_n hdg h hexec hb hr kk
  · exact pms_lstore hdg h hexec hb hr kk
  · exact pms_fstore_n hdg h hexec hb hr kk
  · exact pms_fstore hdg h hexec hb hr kk
  · exact pms_dstore_n hdg h hexec hb hr kk
  · exact pms_dstore hdg h hexec hb hr kk
  · exact pms_iinc hdg h hexec hb hr kk
  · exact pms_iconst hdg h hexec hb hr kk
  · exact pms_bipush hdg h hexec hb hr kk
  · exact pms_sipush hdg h hexec hb hr kk
  · exact pms_lconst hdg h hexec hb hr kk
  · exact pms_fconst hdg h hexec hb hr kk
  · exact pms_dconst hdg h hexec hb hr kk
  · exact pms_iadd hdg h hexec hb hr kk
  · exact pms_isub hdg h hexec hb hr kk
  · exact pms_imul hdg h hexec hb hr kk
  · exact pms_iand hdg h hexec hb hr kk
  · exact pms_ior hdg h hexec hb hr kk
  · exact pms_ixor hdg h hexec hb hr kk
  · exact pms_ineg hdg h hexec hb hr kk
  · exact pms_ishl hdg h hexec hb hr kk
  · exact pms_ishr hdg h hexec hb hr kk
  · exact pms_iushr hdg h hexec hb hr kk
  · exact pms_idiv hdg h hp hexec hb hr kk
  · exact pms_irem hdg h hp hexec hb hr kk
  · exact pms_ladd hdg h hexec hb hr kk
  · exact pms_lsub hdg h hexec hb hr kk
  · exact pms_ldiv hdg h hp hexec hb hr kk
  · exact pms_land hdg h hexec hb hr kk
  · exact pms_lor hdg h hexec hb hr kk
  · exact pms_lxor hdg h hexec hb hr kk
  · exact pms_lcmp hdg h hexec hb hr kk
  · exact pms_lshl hdg h hexec hb hr kk
  · exact pms_lushr hdg h hexec hb hr kk
  · exact pms_i2l hdg h hexec hb hr kk
  · exact pms_l2i hdg h hexec hb hr kk
  · exact pms_i2c hdg h hexec hb hr kk
  · exact pms_i2f hdg h hexec hb hr kk
  · exact pms_i2d hdg h hexec hb hr kk
  · exact pms_f2d hdg h hp hexec hb hr kk
  · exact pms_f2i hdg h hp hexec hb hr kk
  · exact pms_d2l hdg h hexec hb hr kk
  · exact pms_fdiv hdg h hp hexec hb hr kk
  · exact pms_fmul hdg h hp hexec hb hr kk
  · exact pms_fsub hdg h hp hexec hb hr kk
  · exact pms_fcmp hdg h hp hexec hb hr kk
  · exact pms_ddiv hdg h hp hexec hb hr kk
  · exact pms_dmul hdg h hp hexec hb hr kk
  · exact pms_dsub hdg h hp hexec hb hr kk
  · exact pms_dcmp hdg h hp hexec hb hr kk
  · exact pms_if hdg h hp hexec hb hr kk
  · exact pms_ic hdg h hp hexec hb hr kk
  · exact pms_ifnull hdg h hexec hb hr kk
  · exact pms_ifnonnull hdg h hexec hb hr kk
  · exact pms_goto hdg h hexec hb hr kk
  · exact pms_tableswitch hdg h hp hexec hb hr kk
  · exact pms_lookupswitch hdg h hp hexec hb hr kk
  · exact pms_dup hdg h hexec hb hr kk
  · exact pms_dup2 hdg h hexec hb hr kk
  · exact pms_pop hdg h hexec hb hr kk
  · exact pms_getfield hdg h hws hok hown hK hexec hb hr kk
  · exact pms_putfield hdg h hws hok hini hown hK hexec hb hr kk
  · exact pms_arraylength hdg h hK hexec hb hr kk
  · exact pms_iaload hdg h hp hK hexec hb hr kk
  · exact pms_baload hdg h hp hK hexec hb hr kk
  · exact pms_caload hdg h hp hK hexec hb hr kk
  · exact pms_aaload hdg h hp hK hexec hb hr kk
  · exact pms_iastore hdg h hp hK hexec hb hr kk
  · exact pms_bastore hdg h hp hK hexec hb hr kk
  · exact pms_castore hdg h hp hK hexec hb hr kk
  · cases h
end PMS4

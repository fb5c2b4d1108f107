/-! any instruction -/
section ANY
variable {p : Program} {l : Launch} {e : Env} {R : Room} {s : State} {m : MethodId} {args : Array Value} {below : List Frame} {meth : Method} {c : Code} {Q : State → Prop}
variable {z : mm_Z} {mi d n0 m0 : Nat} {F : Nat → mm_Lv → List Value → mm_H → Prop} {G : Nat → List Value → mm_Q → Prop} {Qr : mm_Q}
variable {ip pc : Nat} {L : mm_Lv} {st : List Value} {h : mm_H} {H : Heap} {locs : List Loc} {ls : Array Slot} {cells slots : Nat} {x : List Nat} {v : Value} {aux : List Nat}
set_option maxHeartbeats 4000000 in
theorem mm_any {ins : Instr} (hF : mm_Fr p R s m args meth c z mi d) (hl : lv_has ls (mm_ml mi) (mm_pr z 0 L)) (hRl : mm_Rel z h H) (hlo : ∀ q ∈ locs, z.1.2.2.1 ≤ q.base) (hce : cells + n0 = hN h) (hsl : slots + m0 = hM h) (ck : mm_ck mi ip ins pc x v aux = true) (HO : mm_oW (mm_s1 ins x v ip L st h) F G ip L h Qr) (K : mm_KN p l e R s m args below meth c Q z mi n0 m0 F) (HG : ∀ (k : Nat) (as : List Value) (P : mm_Q), k < 293 → mm_cs as ≤ mm_ml k → G k as P → (∀ r h1, P r h1 → hN h1 ≤ R.cells + n0 ∧ hM h1 ≤ R.slots + m0) → mm_CO l R z d n0 m0 h k as P) (hCH : mm_CH l z) (HB : ∀ (i : Nat) (L : mm_Lv) (st : List Value) (h : mm_H), F i L st h → hN h ≤ R.cells + n0 ∧ hM h ≤ R.slots + m0) (HR : ∀ r : Option Value, Qr r h → mm_ro mi pc r → W p l e R s m args below meth c H locs cells slots Q (F0 m pc ls (mm_rs (r.map (mm_tr z)) []))) : W p l e R s m args below meth c H locs cells slots Q (F0 m pc ls (st.map (mm_tr z))) := by
  cases ins with
  | iload_n a0 => exact mm_p_iload_n hF hl hRl hlo hce hsl ck HO K
  | iload a0 => exact mm_p_iload hF hl hRl hlo hce hsl ck HO K
  | lload_n a0 => exact mm_p_lload_n hF hl hRl hlo hce hsl ck HO K
  | lload a0 => exact mm_p_lload hF hl hRl hlo hce hsl ck HO K
  | aload_n a0 => exact mm_p_aload_n hF hl hRl hlo hce hsl ck HO K
  | aload a0 => exact mm_p_aload hF hl hRl hlo hce hsl ck HO K
  | fload_n a0 => exact mm_p_fload_n hF hl hRl hlo hce hsl ck HO K
  | dload_n a0 => exact mm_p_dload_n hF hl hRl hlo hce hsl ck HO K
  | istore_n a0 => exact mm_p_istore_n hF hl hRl hlo hce hsl ck HO K
  | istore a0 => exact mm_p_istore hF hl hRl hlo hce hsl ck HO K
  | lstore_n a0 => exact mm_p_lstore_n hF hl hRl hlo hce hsl ck HO K
  | lstore a0 => exact mm_p_lstore hF hl hRl hlo hce hsl ck HO K
  | astore_n a0 => exact mm_p_astore_n hF hl hRl hlo hce hsl ck HO K
  | fstore_n a0 => exact mm_p_fstore_n hF hl hRl hlo hce hsl ck HO K
  | dstore_n a0 => exact mm_p_dstore_n hF hl hRl hlo hce hsl ck HO K
  | iinc a0 a1 => exact mm_p_iinc hF hl hRl hlo hce hsl ck HO K
  | iconst a0 => exact mm_p_iconst hF hl hRl hlo hce hsl ck HO K
  | bipush a0 => exact mm_p_bipush hF hl hRl hlo hce hsl ck HO K
  | sipush a0 => exact mm_p_sipush hF hl hRl hlo hce hsl ck HO K
  | lconst a0 => exact mm_p_lconst hF hl hRl hlo hce hsl ck HO K
  | fconst a0 => exact mm_p_fconst hF hl hRl hlo hce hsl ck HO K
  | dconst a0 => exact mm_p_dconst hF hl hRl hlo hce hsl ck HO K
  | ldc a0 => exact mm_p_ldc hF hl hRl hlo hce hsl ck HO K
  | ldc_w a0 => exact mm_p_ldcw hF hl hRl hlo hce hsl ck HO K
  | ldc2_w a0 => exact mm_p_ldc2 hF hl hRl hlo hce hsl ck HO K
  | aconst_null => exact mm_p_null hF hl hRl hlo hce hsl ck HO K
  | iadd => exact mm_p_iadd hF hl hRl hlo hce hsl ck HO K
  | isub => exact mm_p_isub hF hl hRl hlo hce hsl ck HO K
  | imul => exact mm_p_imul hF hl hRl hlo hce hsl ck HO K
  | iand => exact mm_p_iand hF hl hRl hlo hce hsl ck HO K
  | ior => exact mm_p_ior hF hl hRl hlo hce hsl ck HO K
  | irem => exact mm_p_irem hF hl hRl hlo hce hsl ck HO K
  | ishl => exact mm_p_ishl hF hl hRl hlo hce hsl ck HO K
  | ishr => exact mm_p_ishr hF hl hRl hlo hce hsl ck HO K
  | iushr => exact mm_p_iushr hF hl hRl hlo hce hsl ck HO K
  | ladd => exact mm_p_ladd hF hl hRl hlo hce hsl ck HO K
  | lsub => exact mm_p_lsub hF hl hRl hlo hce hsl ck HO K
  | lmul => exact mm_p_lmul hF hl hRl hlo hce hsl ck HO K
  | land => exact mm_p_land hF hl hRl hlo hce hsl ck HO K
  | lor => exact mm_p_lor hF hl hRl hlo hce hsl ck HO K
  | lxor => exact mm_p_lxor hF hl hRl hlo hce hsl ck HO K
  | ldiv => exact mm_p_ldiv hF hl hRl hlo hce hsl ck HO K
  | lrem => exact mm_p_lrem hF hl hRl hlo hce hsl ck HO K
  | lshl => exact mm_p_lshl hF hl hRl hlo hce hsl ck HO K
  | lshr => exact mm_p_lshr hF hl hRl hlo hce hsl ck HO K
  | lushr => exact mm_p_lushr hF hl hRl hlo hce hsl ck HO K
  | lneg => exact mm_p_lneg hF hl hRl hlo hce hsl ck HO K
  | i2l => exact mm_p_i2l hF hl hRl hlo hce hsl ck HO K
  | l2i => exact mm_p_l2i hF hl hRl hlo hce hsl ck HO K
  | l2f => exact mm_p_l2f hF hl hRl hlo hce hsl ck HO K
  | l2d => exact mm_p_l2d hF hl hRl hlo hce hsl ck HO K
  | d2l => exact mm_p_d2l hF hl hRl hlo hce hsl ck HO K
  | dneg => exact mm_p_dneg hF hl hRl hlo hce hsl ck HO K
  | dmul => exact mm_p_dmul hF hl hRl hlo hce hsl ck HO K
  | ddiv => exact mm_p_ddiv hF hl hRl hlo hce hsl ck HO K
  | drem => exact mm_p_drem hF hl hRl hlo hce hsl ck HO K
  | f2d => exact mm_p_f2d hF hl hRl hlo hce hsl ck HO K
  | fdiv => exact mm_p_fdiv hF hl hRl hlo hce hsl ck HO K
  | fcmp a0 => exact mm_p_fcmp hF hl hRl hlo hce hsl ck HO K
  | dcmp a0 => exact mm_p_dcmp hF hl hRl hlo hce hsl ck HO K
  | dup => exact mm_p_dup hF hl hRl hlo hce hsl ck HO K
  | pop => exact mm_p_pop hF hl hRl hlo hce hsl ck HO K
  | dup2 => exact mm_p_dup2 hF hl hRl hlo hce hsl ck HO K
  | goto a0 => exact mm_p_goto hF hl hRl hlo hce hsl ck HO K
  | ifnonnull a0 => exact mm_p_ifnonnull hF hl hRl hlo hce hsl ck HO K
  | lcmp => exact mm_p_lcmp hF hl hRl hlo hce hsl ck HO K
  | tableswitch a0 a1 a2 a3 => exact mm_p_table hF hl hRl hlo hce hsl ck HO K
  | lookupswitch a0 a1 => exact mm_p_lookup hF hl hRl hlo hce hsl ck HO K
  | getfield a0 => exact mm_p_getfield hF hl hRl hlo hce hsl ck HO K
  | putfield a0 => exact mm_p_putfield hF hl hRl hlo hce hsl ck HO K
  | iaload => exact mm_p_iaload hF hl hRl hlo hce hsl ck HO K
  | baload => exact mm_p_baload hF hl hRl hlo hce hsl ck HO K
  | laload => exact mm_p_laload hF hl hRl hlo hce hsl ck HO K
  | aaload => exact mm_p_aaload hF hl hRl hlo hce hsl ck HO K
  | iastore => exact mm_p_iastore hF hl hRl hlo hce hsl ck HO K
  | bastore => exact mm_p_bastore hF hl hRl hlo hce hsl ck HO K
  | lastore => exact mm_p_lastore hF hl hRl hlo hce hsl ck HO K
  | aastore => exact mm_p_aastore hF hl hRl hlo hce hsl ck HO K
  | arraylength => exact mm_p_arraylength hF hl hRl hlo hce hsl ck HO K
  | new a0 => exact mm_p_new hF hl hRl hlo hce hsl ck HO K HB
  | newarray a0 => exact mm_p_newarray hF hl hRl hlo hce hsl ck HO K HB
  | anewarray a0 => exact mm_p_anewarray hF hl hRl hlo hce hsl ck HO K HB
  | ifCond cn off =>
    cases cn with
    | eq => exact mm_p_if_eq hF hl hRl hlo hce hsl ck HO K
    | ne => exact mm_p_if_ne hF hl hRl hlo hce hsl ck HO K
    | lt => exact mm_p_if_lt hF hl hRl hlo hce hsl ck HO K
    | ge => exact mm_p_if_ge hF hl hRl hlo hce hsl ck HO K
    | gt => exact mm_p_if_gt hF hl hRl hlo hce hsl ck HO K
    | le => exact mm_p_if_le hF hl hRl hlo hce hsl ck HO K
  | if_icmp cn off =>
    cases cn with
    | eq => exact mm_p_ic_eq hF hl hRl hlo hce hsl ck HO K
    | ne => exact mm_p_ic_ne hF hl hRl hlo hce hsl ck HO K
    | lt => exact mm_p_ic_lt hF hl hRl hlo hce hsl ck HO K
    | ge => exact mm_p_ic_ge hF hl hRl hlo hce hsl ck HO K
    | gt => exact mm_p_ic_gt hF hl hRl hlo hce hsl ck HO K
    | le => exact mm_p_ic_le hF hl hRl hlo hce hsl ck HO K
  | invokestatic i => exact mm_p_static hF hl hRl hlo hce hsl ck HO K HG HB
  | invokevirtual i => exact mm_p_virtual hF hl hRl hlo hce hsl ck HO K HG hCH HB
  | invokespecial i => exact mm_p_special hF hl hRl hlo hce hsl ck HO K HG HB
  | ireturn => exact mm_p_ireturn hF hl hRl hlo hce hsl ck HO HR
  | lreturn => exact mm_p_lreturn hF hl hRl hlo hce hsl ck HO HR
  | areturn => exact mm_p_areturn hF hl hRl hlo hce hsl ck HO HR
  | return_ => exact mm_p_return hF hl hRl hlo hce hsl ck HO HR
  | _ => exact False.elim HO
end ANY

section STEP
variable {p : Program} {l : Launch} {e : Env} {R : Room} {s : State} {m : MethodId} {args : Array Value} {below : List Frame} {meth : Method} {c : Code} {Q : State → Prop}
variable {G : zCx} {cd : List zA} {nL : Nat} {own : String} {cc : ByteArray} {ad0 : Nat → Nat} {n0 c0 s0 i j : Nat} {ls ls' : zLV} {st st' : List zV} {h h' : zH} {hn : Nat × Nat} {ini : Bool} {pc len x y z w : Nat} {c1 : Int32 × Int64} {tb : List (Int32 × Nat)}
theorem zone {a : zA} (E : CallFix p m c cc nL s args zTs own) (X : zCX G s) (hcd : cd[i]? = some a) (hck : zck own cc ini nL cd hn i a = true) (hini : ini = true → meth.name = "<init>")
    (hR : 10 ≤ R.frames ∧ 200 ≤ R.locals ∧ zc h' ≤ c0 + R.cells ∧ zs h' ≤ s0 + R.slots) (hs : zstep zTX cd i ls st h = zNx j ls' st' h')
    (kk : zCfg p l e R s m args below meth c Q G cd nL ad0 n0 c0 s0 j ls' st' h') : zCfg p l e R s m args below meth c Q G cd nL ad0 n0 c0 s0 i ls st h := by
  obtain ⟨pc, ins, len, ⟨x, y, z, w⟩, c1, tb⟩ := a
  simp only [zstep, hcd] at hs
  cases ins with
  | aconst_null => exact zone_aconst_null E X hcd hck hini hR hs kk
  | iadd => exact zone_iadd E X hcd hck hini hR hs kk
  | isub => exact zone_isub E X hcd hck hini hR hs kk
  | imul => exact zone_imul E X hcd hck hini hR hs kk
  | iand => exact zone_iand E X hcd hck hini hR hs kk
  | ior => exact zone_ior E X hcd hck hini hR hs kk
  | ixor => exact zone_ixor E X hcd hck hini hR hs kk
  | ishl => exact zone_ishl E X hcd hck hini hR hs kk
  | ishr => exact zone_ishr E X hcd hck hini hR hs kk
  | iushr => exact zone_iushr E X hcd hck hini hR hs kk
  | idiv => exact zone_idiv E X hcd hck hini hR hs kk
  | irem => exact zone_irem E X hcd hck hini hR hs kk
  | ladd => exact zone_ladd E X hcd hck hini hR hs kk
  | lsub => exact zone_lsub E X hcd hck hini hR hs kk
  | land => exact zone_land E X hcd hck hini hR hs kk
  | lor => exact zone_lor E X hcd hck hini hR hs kk
  | lshl => exact zone_lshl E X hcd hck hini hR hs kk
  | lushr => exact zone_lushr E X hcd hck hini hR hs kk
  | lcmp => exact zone_lcmp E X hcd hck hini hR hs kk
  | i2l => exact zone_i2l E X hcd hck hini hR hs kk
  | l2i => exact zone_l2i E X hcd hck hini hR hs kk
  | i2b => exact zone_i2b E X hcd hck hini hR hs kk
  | i2c => exact zone_i2c E X hcd hck hini hR hs kk
  | dup => exact zone_dup E X hcd hck hini hR hs kk
  | dup2 => exact zone_dup2 E X hcd hck hini hR hs kk
  | pop => exact zone_pop E X hcd hck hini hR hs kk
  | iaload => exact zone_iaload E X hcd hck hini hR hs kk
  | baload => exact zone_baload E X hcd hck hini hR hs kk
  | laload => exact zone_laload E X hcd hck hini hR hs kk
  | aaload => exact zone_aaload E X hcd hck hini hR hs kk
  | iastore => exact zone_iastore E X hcd hck hini hR hs kk
  | bastore => exact zone_bastore E X hcd hck hini hR hs kk
  | lastore => exact zone_lastore E X hcd hck hini hR hs kk
  | aastore => exact zone_aastore E X hcd hck hini hR hs kk
  | arraylength => exact zone_arraylength E X hcd hck hini hR hs kk
  | iconst n => exact zone_iconst E X hcd hck hini hR hs kk
  | bipush n => exact zone_bipush E X hcd hck hini hR hs kk
  | sipush n => exact zone_sipush E X hcd hck hini hR hs kk
  | lconst n => exact zone_lconst E X hcd hck hini hR hs kk
  | ldc2_w n => exact zone_ldc2_w E X hcd hck hini hR hs kk
  | ldc n => exact zone_ldc E X hcd hck hini hR hs kk
  | ldc_w n => exact zone_ldc_w E X hcd hck hini hR hs kk
  | iload_n n => exact zone_iload_n E X hcd hck hini hR hs kk
  | lload_n n => exact zone_lload_n E X hcd hck hini hR hs kk
  | iload n => exact zone_iload E X hcd hck hini hR hs kk
  | lload n => exact zone_lload E X hcd hck hini hR hs kk
  | aload_n n => exact zone_aload_n E X hcd hck hini hR hs kk
  | aload n => exact zone_aload E X hcd hck hini hR hs kk
  | istore_n n => exact zone_istore_n E X hcd hck hini hR hs kk
  | istore n => exact zone_istore E X hcd hck hini hR hs kk
  | lstore_n n => exact zone_lstore_n E X hcd hck hini hR hs kk
  | astore_n n => exact zone_astore_n E X hcd hck hini hR hs kk
  | astore n => exact zone_astore E X hcd hck hini hR hs kk
  | goto n => exact zone_goto E X hcd hck hini hR hs kk
  | ifnull n => exact zone_ifnull E X hcd hck hini hR hs kk
  | ifnonnull n => exact zone_ifnonnull E X hcd hck hini hR hs kk
  | newarray n => exact zone_newarray E X hcd hck hini hR hs kk
  | anewarray n => exact zone_anewarray E X hcd hck hini hR hs kk
  | new n => exact zone_new E X hcd hck hini hR hs kk
  | getfield n => exact zone_getfield E X hcd hck hini hR hs kk
  | putfield n => exact zone_putfield E X hcd hck hini hR hs kk
  | getstatic n => exact zone_getstatic E X hcd hck hini hR hs kk
  | iinc n d => exact zone_iinc E X hcd hck hini hR hs kk
  | ifCond k n => exact zone_ifCond E X hcd hck hini hR hs kk
  | if_icmp k n => exact zone_if_icmp E X hcd hck hini hR hs kk
  | tableswitch d lo hi offs => exact zone_tableswitch E X hcd hck hini hR hs kk
  | lookupswitch d ps => exact zone_lookupswitch E X hcd hck hini hR hs kk
  | invokespecial n => exact zone_objinit E X hcd hck hini hR hs kk
  | invokestatic n => exact zone_acopy E X hcd hck hini hR hs kk
  | invokevirtual n =>
    simp only [zsem] at hs
    split at hs
    · obtain ⟨-, e1⟩ := zcond hs
      cases e1
    · cases hs
  | ireturn =>
    simp only [zsem] at hs
    split at hs
    · obtain ⟨-, e1⟩ := zcond hs
      cases e1
    · cases hs
  | return_ =>
    simp only [zsem] at hs
    split at hs <;> cases hs
  | _ => cases hs
end STEP

def lkOk (o : Nat) (q : Nat × (Nat × Nat × Nat)) : Bool := let y := yOf q.2.2.1; let pl := q.2.2.2; let own := ownL.getD o ""; match q.2.1 with
  | 0 => hasW pl (.methodLink own q.1 y) && decide (q.2.2.1 < 291) && !(mSt.getD q.2.2.1 false) && hasW (mPs.getD q.2.2.1 0) (.selects y.cls y y)
  | 1 => hasW pl (.methodLink own q.1 y) && decide (q.2.2.1 < 291) && mSt.getD q.2.2.1 false
  | 2 => hasW pl (.methodLink own q.1 y) && decide (q.2.2.1 < 291) && !(mSt.getD q.2.2.1 false) && decide (y.name = "<init>") && decide (rtOf q.2.2.1 = none)
  | 3 => hasN pl (.methodLinkNest own q.1 y "BlissMarket") && decide (q.2.2.1 < 291) && mSt.getD q.2.2.1 false
  | 4 => hasN pl (.methodLinkNest own q.1 y "BlissMarket") && decide (q.2.2.1 < 291) && !(mSt.getD q.2.2.1 false) && decide (y.name = "<init>") && decide (rtOf q.2.2.1 = none)
  | 5 => hasW pl (.methodLink own q.1 objectInit)
  | 6 => hasW pl (.methodLink own q.1 arraycopyName)
  | _ => true
theorem lk_0_0 : (((mTs.getD 0 []).drop 0).take 20).all (lkOk 0) = true := by decide +kernel
theorem lk_1_0 : (((mTs.getD 1 []).drop 0).take 20).all (lkOk 1) = true := by decide +kernel
theorem lk_1_1 : (((mTs.getD 1 []).drop 20).take 20).all (lkOk 1) = true := by decide +kernel
theorem lk_2_0 : (((mTs.getD 2 []).drop 0).take 20).all (lkOk 2) = true := by decide +kernel
theorem lk_3_0 : (((mTs.getD 3 []).drop 0).take 20).all (lkOk 3) = true := by decide +kernel
theorem lk_4_0 : (((mTs.getD 4 []).drop 0).take 20).all (lkOk 4) = true := by decide +kernel
theorem lk_5_0 : (((mTs.getD 5 []).drop 0).take 20).all (lkOk 5) = true := by decide +kernel
theorem lk_5_1 : (((mTs.getD 5 []).drop 20).take 20).all (lkOk 5) = true := by decide +kernel
theorem lk_6_0 : (((mTs.getD 6 []).drop 0).take 20).all (lkOk 6) = true := by decide +kernel
theorem lk_7_0 : (((mTs.getD 7 []).drop 0).take 20).all (lkOk 7) = true := by decide +kernel
theorem lk_8_0 : (((mTs.getD 8 []).drop 0).take 20).all (lkOk 8) = true := by decide +kernel
theorem lk_8_1 : (((mTs.getD 8 []).drop 20).take 20).all (lkOk 8) = true := by decide +kernel
theorem lk_8_2 : (((mTs.getD 8 []).drop 40).take 20).all (lkOk 8) = true := by decide +kernel
theorem lk_8_3 : (((mTs.getD 8 []).drop 60).take 20).all (lkOk 8) = true := by decide +kernel
theorem lk_9_0 : (((mTs.getD 9 []).drop 0).take 20).all (lkOk 9) = true := by decide +kernel
theorem lk_9_1 : (((mTs.getD 9 []).drop 20).take 20).all (lkOk 9) = true := by decide +kernel
theorem lk_9_2 : (((mTs.getD 9 []).drop 40).take 20).all (lkOk 9) = true := by decide +kernel
theorem lk_9_3 : (((mTs.getD 9 []).drop 60).take 20).all (lkOk 9) = true := by decide +kernel
theorem lk_9_4 : (((mTs.getD 9 []).drop 80).take 20).all (lkOk 9) = true := by decide +kernel
theorem lk_10_0 : (((mTs.getD 10 []).drop 0).take 20).all (lkOk 10) = true := by decide +kernel
theorem lk_10_1 : (((mTs.getD 10 []).drop 20).take 20).all (lkOk 10) = true := by decide +kernel
theorem lk_10_2 : (((mTs.getD 10 []).drop 40).take 20).all (lkOk 10) = true := by decide +kernel
theorem lk_10_3 : (((mTs.getD 10 []).drop 60).take 20).all (lkOk 10) = true := by decide +kernel
theorem lk_13_0 : (((mTs.getD 13 []).drop 0).take 20).all (lkOk 13) = true := by decide +kernel
theorem lk_14_0 : (((mTs.getD 14 []).drop 0).take 20).all (lkOk 14) = true := by decide +kernel
theorem lk_15_0 : (((mTs.getD 15 []).drop 0).take 20).all (lkOk 15) = true := by decide +kernel
theorem lk_16_0 : (((mTs.getD 16 []).drop 0).take 20).all (lkOk 16) = true := by decide +kernel
theorem obj_ok : (hasW 154 (.instanceMethod objectInit) && hasW 155 (.code objectInit ⟨#[0xb1]⟩ 1 none)) = true := by decide +kernel
theorem cpy_ok : (hasW 770 (.native arraycopyName) && hasW 769 (.static arraycopyName) && hasW 146 (.initialized "java/lang/System")) = true := by decide +kernel
def vwN (ci : Nat) : String := ((vwCl[ci]?).map Prod.fst).getD ""
def vwT (ci : Nat) : u_T := match ci with
  | 0 => TX0
  | 1 => TX2
  | 2 => TX3
  | 3 => TX4
  | 4 => TX5
  | 5 => TX6
  | 6 => TX7
  | 7 => TX8
  | 8 => TX9
  | _ => TX10
def vwY (ci : Nat) : Nat → FieldType := match ci with
  | 0 => tyX0
  | 1 => tyX2
  | 2 => tyX3
  | 3 => tyX4
  | 4 => tyX5
  | 5 => tyX6
  | 6 => tyX7
  | 7 => tyX8
  | 8 => tyX9
  | _ => tyX10
def vwK (ci : Nat) : Nat := (ftyL.getD ci []).length
def tyCd (t : FieldType) : Nat := match t with
  | .int => 0
  | .boolean => 1
  | .long => 2
  | .object _ => 3
  | .array _ => 3
  | _ => 9
def fkOk (o : Nat) (q : Nat × (Nat × Nat × Nat)) : Bool := let ci := q.2.1; let k := q.2.2.1; decide (ci < 10) && decide (k < vwK ci) && hasW q.2.2.2 (.fieldLink (ownL.getD o "") q.1 (vwN ci) (vwT ci k).2.1 (vwT ci k).2.2.1)
theorem fk_0_0 : (((fTs.getD 0 []).drop 0).take 20).all (fkOk 0) = true := by decide +kernel
theorem fk_1_0 : (((fTs.getD 1 []).drop 0).take 20).all (fkOk 1) = true := by decide +kernel
theorem fk_1_1 : (((fTs.getD 1 []).drop 20).take 20).all (fkOk 1) = true := by decide +kernel
theorem fk_2_0 : (((fTs.getD 2 []).drop 0).take 20).all (fkOk 2) = true := by decide +kernel
theorem fk_3_0 : (((fTs.getD 3 []).drop 0).take 20).all (fkOk 3) = true := by decide +kernel
theorem fk_4_0 : (((fTs.getD 4 []).drop 0).take 20).all (fkOk 4) = true := by decide +kernel
theorem fk_4_1 : (((fTs.getD 4 []).drop 20).take 20).all (fkOk 4) = true := by decide +kernel
theorem fk_5_0 : (((fTs.getD 5 []).drop 0).take 20).all (fkOk 5) = true := by decide +kernel
theorem fk_5_1 : (((fTs.getD 5 []).drop 20).take 20).all (fkOk 5) = true := by decide +kernel
theorem fk_6_0 : (((fTs.getD 6 []).drop 0).take 20).all (fkOk 6) = true := by decide +kernel
theorem fk_7_0 : (((fTs.getD 7 []).drop 0).take 20).all (fkOk 7) = true := by decide +kernel
theorem fk_8_0 : (((fTs.getD 8 []).drop 0).take 20).all (fkOk 8) = true := by decide +kernel
theorem fk_8_1 : (((fTs.getD 8 []).drop 20).take 20).all (fkOk 8) = true := by decide +kernel
theorem fk_8_2 : (((fTs.getD 8 []).drop 40).take 20).all (fkOk 8) = true := by decide +kernel
theorem fk_9_0 : (((fTs.getD 9 []).drop 0).take 20).all (fkOk 9) = true := by decide +kernel
theorem fk_9_1 : (((fTs.getD 9 []).drop 20).take 20).all (fkOk 9) = true := by decide +kernel
theorem fk_9_2 : (((fTs.getD 9 []).drop 40).take 20).all (fkOk 9) = true := by decide +kernel
theorem fk_9_3 : (((fTs.getD 9 []).drop 60).take 20).all (fkOk 9) = true := by decide +kernel
theorem vw_ok : (List.range 10).all (fun ci => (List.range (vwK ci)).all fun k => decide ((vwT ci k).1 = vwN ci) && decide (vwN ci = ownL.getD ci "") && decide ((ftyL.getD ci []).getD k 9 = tyCd (vwY ci k)) && decide ((ffnL.getD ci []).getD k true = (vwT ci k).2.2.2)) = true := by decide +kernel
theorem cc_ok : (List.range 18).all (fun o => (cTs.getD o []).all fun q => hasW q.2.2 (.constant (ownL.getD o "") q.1 q.2.1)) = true := by decide +kernel
theorem cl_ok : (List.range 18).all (fun o => (lTs.getD o []).all fun q => hasW q.2.2 (.constantLong (ownL.getD o "") q.1 q.2.1)) = true := by decide +kernel
theorem ck_ok : (List.range 18).all (fun o => (kTs.getD o []).all fun q => decide (q.2.1 < 10) && hasW q.2.2 (.classLink (ownL.getD o "") q.1 (vwN q.2.1)) && hasW (kPi.getD q.2.1 0) (.instantiable (vwN q.2.1) (vwK q.2.1)) && hasW (kPn.getD q.2.1 0) (.initialized (vwN q.2.1))) = true := by decide +kernel
def gkOk (o : Nat) (q : Nat × (Nat × Nat)) : Bool := match q.2.1 with
  | 0 => hasW q.2.2 (.fieldLink (ownL.getD o "") q.1 RX0 "NOT_TOLD" "[I")
  | 1 => hasW q.2.2 (.fieldLink (ownL.getD o "") q.1 "java/lang/String" "COMPACT_STRINGS" "Z")
  | 2 => hasW q.2.2 (.fieldLink (ownL.getD o "") q.1 "jdk/internal/util/Preconditions" "SIOOBE_FORMATTER" "Ljava/util/function/BiFunction;")
  | _ => true
theorem gk_ok : (List.range 18).all (fun o => (gTs.getD o []).all (gkOk o)) = true := by decide +kernel
def skOk (o : Nat) (q : Nat × (Nat × Nat)) : Bool := match q.2.1 with
  | 0 => hasW q.2.2 (.fieldLink (ownL.getD o "") q.1 "java/lang/String" "value" "[B")
  | 1 => hasW q.2.2 (.fieldLink (ownL.getD o "") q.1 "java/lang/String" "coder" "B")
  | _ => true
theorem sk_ok : (List.range 18).all (fun o => (sTs.getD o []).all (skOk o)) = true := by decide +kernel
theorem ac_ok : (hasW 255 (.arrayClass .int) && hasW 254 (.arrayClass .byte) && hasW 1509 (.arrayClass .boolean) && hasW 256 (.arrayClass .long)) = true := by decide +kernel
def ilen (i : Instr) : Nat := match i with
  | .aaload => 1
  | .aastore => 1
  | .aload_n _ => 1
  | .anewarray _ => 3
  | .areturn => 1
  | .arraylength => 1
  | .astore_n _ => 1
  | .athrow => 1
  | .baload => 1
  | .bastore => 1
  | .bipush _ => 2
  | .checkcast _ => 3
  | .dup => 1
  | .dup2 => 1
  | .getfield _ => 3
  | .getstatic _ => 3
  | .goto _ => 3
  | .i2b => 1
  | .i2c => 1
  | .i2l => 1
  | .iadd => 1
  | .iaload => 1
  | .iand => 1
  | .iastore => 1
  | .iconst _ => 1
  | .idiv => 1
  | .ifCond _ _ => 3
  | .if_icmp _ _ => 3
  | .iinc _ _ => 3
  | .iload _ => 2
  | .iload_n _ => 1
  | .imul => 1
  | .ineg => 1
  | .invokespecial _ => 3
  | .invokestatic _ => 3
  | .invokevirtual _ => 3
  | .ior => 1
  | .irem => 1
  | .ireturn => 1
  | .ishl => 1
  | .ishr => 1
  | .istore _ => 2
  | .istore_n _ => 1
  | .isub => 1
  | .iushr => 1
  | .ixor => 1
  | .l2i => 1
  | .ladd => 1
  | .laload => 1
  | .land => 1
  | .lastore => 1
  | .lcmp => 1
  | .lconst _ => 1
  | .ldc _ => 2
  | .ldc2_w _ => 3
  | .ldc_w _ => 3
  | .ldiv => 1
  | .lload _ => 2
  | .lload_n _ => 1
  | .lmul => 1
  | .lor => 1
  | .lrem => 1
  | .lreturn => 1
  | .lshl => 1
  | .lshr => 1
  | .lstore _ => 2
  | .lstore_n _ => 1
  | .lsub => 1
  | .lxor => 1
  | .new _ => 3
  | .newarray _ => 2
  | .pop => 1
  | .putfield _ => 3
  | .return_ => 1
  | .sipush _ => 3
  | _ => 0
theorem il_ok : (tbs.all fun t => t.all fun q => decide (ilen q.2.1 = q.2.2) || decide (ilen q.2.1 = 0)) = true := by decide +kernel

def FX5_off (n : Nat) (a1 : Int32) (a2 : Int32) (a3 : Int32) (a4 : Int32) (h : aw_H) : Option (Int64) :=
  ((FX4_wheelOf a1 h).bind (fun q1 => (aw_on q1 (some (-9223372036854775808 : Int64)) (fun w3 => (if aw_isW w3 = true then (if (FX5_within (a2 / (10000 : Int32)) (1 : Int32) (9999 : Int32)) = 0 then some (-9223372036854775808 : Int64) else (if (FX5_within (a2 - (a2 / (10000 : Int32)) * (10000 : Int32)) (1 : Int32) (9999 : Int32)) = 0 then some (-9223372036854775808 : Int64) else (if (FX5_within a3 (0 : Int32) (9999 : Int32)) = 0 then some (-9223372036854775808 : Int64) else (if (FX5_within a4 (0 : Int32) (1 : Int32)) = 0 then some (-9223372036854775808 : Int64) else ((FX5_lowest n ((((h.2 w3 4) * ((a2 - (a2 / (10000 : Int32)) * (10000 : Int32))).toInt64) - ((h.2 w3 5) * ((a2 / (10000 : Int32))).toInt64)) * (a3).toInt64) ((h.2 w3 5) * ((a2 - (a2 / (10000 : Int32)) * (10000 : Int32))).toInt64) a4).bind (fun q5 => some q5)))))) else none)))))
set_option maxRecDepth 100000 in
set_option maxHeartbeats 4000000 in
theorem ctX5_off (n : Nat) (a1 : Int32) (a2 : Int32) (a3 : Int32) (a4 : Int32) (h : aw_H) (y : Int64) (hF : FX5_off n a1 a2 a3 a4 h = some y) : Ct 2 0 0 yX5_off cX5_off 8 (some .long) [.ref 0, .int a1, .int a2, .int a3, .int a4] wL wR h (aw_D (some (.long y)) h) := by
  refine Ct.of (ls0 := [.ref 0, .int a1, .int a2, .int a3, .int a4, .retAddr 0, .retAddr 0, .retAddr 0]) (by decide +kernel) rfl rfl (fun X C E hnm => ?_)
  have C : aw_C X RX5 cX5_off 8 2 0 0 := C
  unfold FX5_off at hF
  refine aw_aload_0 C dX5_off_0 ?_
  refine aw_getR C dX5_off_1 fX5_12 gX5_0 rfl rfl ?_
  refine aw_iload_1 C dX5_off_4 ?_
  obtain ⟨q1, e2, hF⟩ := bw_bind hF
  refine bw_V1q C dX5_off_5 kyX4_wheelOf lX5_69 kiX4_wheelOf kvX4_wheelOf (aw_rv C rfl rfl) rfl rfl (ctX4_wheelOf a1 h q1 e2) ?_
  refine bw_on hF (fun hF => ?_) (fun w3 hF => ?_)
  · refine aw_astoreN_5 C dX5_off_8 rfl rfl ?_
    refine aw_iload_2 C dX5_off_10 ?_
    refine aw_sipush C dX5_off_11 ls_10000 ?_
    refine aw_idiv C dX5_off_14 (by decide) ?_
    refine aw_istore_6 C dX5_off_15 rfl rfl ?_
    refine aw_iload_2 C dX5_off_17 ?_
    refine aw_sipush C dX5_off_18 ls_10000 ?_
    refine aw_irem C dX5_off_21 (by decide) ?_
    refine aw_istore_7 C dX5_off_22 rfl rfl ?_
    refine aw_aloadN_5 C dX5_off_24 ?_
    refine aw_ifnullN (tgt := 53) C dX5_off_26 (by decide) ?_
    refine aw_ldc2 C dX5_off_53 nX5_131 ?_
    obtain rfl := Option.some.inj hF
    exact aw_lret C E dX5_off_56 rfl rfl (bw_ret rfl)
  · obtain ⟨s4, hF⟩ := bw_side hF
    refine aw_astore_5 C dX5_off_8 rfl rfl ?_
    refine aw_iload_2 C dX5_off_10 ?_
    refine aw_sipush C dX5_off_11 ls_10000 ?_
    refine aw_idiv C dX5_off_14 (by decide) ?_
    refine aw_istore_6 C dX5_off_15 rfl rfl ?_
    refine aw_iload_2 C dX5_off_17 ?_
    refine aw_sipush C dX5_off_18 ls_10000 ?_
    refine aw_irem C dX5_off_21 (by decide) ?_
    refine aw_istore_7 C dX5_off_22 rfl rfl ?_
    refine aw_aload_5 C dX5_off_24 ?_
    refine aw_ifnullR C dX5_off_26 ?_
    refine aw_iload_6 C dX5_off_29 ?_
    refine aw_iconst C dX5_off_31 li_1 ?_
    refine aw_sipush C dX5_off_32 ls_9999 ?_
    refine bw_S3i C dX5_off_35 kyX5_within lX5_91 ksX5_within rfl rfl (ctX5_within (a2 / (10000 : Int32)) (1 : Int32) (9999 : Int32) h _ rfl) ?_
    refine bw_if_eq (tgt := 53) C dX5_off_38 (by decide) hF (fun hF => ?_) (fun hF => ?_)
    · refine aw_ldc2 C dX5_off_53 nX5_131 ?_
      obtain rfl := Option.some.inj hF
      exact aw_lret C E dX5_off_56 rfl rfl (bw_ret rfl)
    · refine aw_iload_7 C dX5_off_41 ?_
      refine aw_iconst C dX5_off_43 li_1 ?_
      refine aw_sipush C dX5_off_44 ls_9999 ?_
      refine bw_S3i C dX5_off_47 kyX5_within lX5_91 ksX5_within rfl rfl (ctX5_within (a2 - (a2 / (10000 : Int32)) * (10000 : Int32)) (1 : Int32) (9999 : Int32) h _ rfl) ?_
      refine bw_if_ne (tgt := 57) C dX5_off_50 (by decide) hF (fun hF => ?_) (fun hF => ?_)
      · refine aw_iload_3 C dX5_off_57 ?_
        refine aw_iconst C dX5_off_58 li_0 ?_
        refine aw_sipush C dX5_off_59 ls_9999 ?_
        refine bw_S3i C dX5_off_62 kyX5_within lX5_91 ksX5_within rfl rfl (ctX5_within a3 (0 : Int32) (9999 : Int32) h _ rfl) ?_
        refine bw_if_eq (tgt := 78) C dX5_off_65 (by decide) hF (fun hF => ?_) (fun hF => ?_)
        · refine aw_ldc2 C dX5_off_78 nX5_131 ?_
          obtain rfl := Option.some.inj hF
          exact aw_lret C E dX5_off_81 rfl rfl (bw_ret rfl)
        · refine aw_iload_4 C dX5_off_68 ?_
          refine aw_iconst C dX5_off_70 li_0 ?_
          refine aw_iconst C dX5_off_71 li_1 ?_
          refine bw_S3i C dX5_off_72 kyX5_within lX5_91 ksX5_within rfl rfl (ctX5_within a4 (0 : Int32) (1 : Int32) h _ rfl) ?_
          refine bw_if_ne (tgt := 82) C dX5_off_75 (by decide) hF (fun hF => ?_) (fun hF => ?_)
          · refine aw_aload_5 C dX5_off_82 ?_
            refine aw_getL C dX5_off_84 fX5_133 gX3_4 (aw_w1 s4) ?_
            refine aw_iload_7 C dX5_off_87 ?_
            refine aw_i2l C dX5_off_89 ?_
            refine aw_lmul C dX5_off_90 ?_
            refine aw_aload_5 C dX5_off_91 ?_
            refine aw_getL C dX5_off_93 fX5_137 gX3_5 (aw_w1 s4) ?_
            refine aw_iload_6 C dX5_off_96 ?_
            refine aw_i2l C dX5_off_98 ?_
            refine aw_lmul C dX5_off_99 ?_
            refine aw_lsub C dX5_off_100 ?_
            refine aw_iload_3 C dX5_off_101 ?_
            refine aw_i2l C dX5_off_102 ?_
            refine aw_lmul C dX5_off_103 ?_
            refine aw_aload_5 C dX5_off_104 ?_
            refine aw_getL C dX5_off_106 fX5_137 gX3_5 (aw_w1 s4) ?_
            refine aw_iload_7 C dX5_off_109 ?_
            refine aw_i2l C dX5_off_111 ?_
            refine aw_lmul C dX5_off_112 ?_
            refine aw_iload_4 C dX5_off_113 ?_
            obtain ⟨q5, e6, hF⟩ := bw_bind hF
            refine bw_S3l C dX5_off_115 kyX5_lowest lX5_209 ksX5_lowest rfl rfl (ctX5_lowest n ((((h.2 w3 4) * ((a2 - (a2 / (10000 : Int32)) * (10000 : Int32))).toInt64) - ((h.2 w3 5) * ((a2 / (10000 : Int32))).toInt64)) * (a3).toInt64) ((h.2 w3 5) * ((a2 - (a2 / (10000 : Int32)) * (10000 : Int32))).toInt64) a4 h q5 e6) ?_
            obtain rfl := Option.some.inj hF
            exact aw_lret C E dX5_off_118 rfl rfl (bw_ret rfl)
          · refine aw_ldc2 C dX5_off_78 nX5_131 ?_
            obtain rfl := Option.some.inj hF
            exact aw_lret C E dX5_off_81 rfl rfl (bw_ret rfl)
      · refine aw_ldc2 C dX5_off_53 nX5_131 ?_
        obtain rfl := Option.some.inj hF
        exact aw_lret C E dX5_off_56 rfl rfl (bw_ret rfl)
def FX5_alike (n : Nat) (a1 : Int32) (h : aw_H) : Option (Int32) :=
  (if a1 = (-1 : Int32) then ((FX4_groups n h).bind (fun q7 => some q7)) else ((FX4_wheelOf a1 h).bind (fun q1 => (aw_on q1 (some (-2 : Int32)) (fun w3 => (if aw_isW w3 = true then ((FX4_likeOnes n w3 h).bind (fun q5 => some q5)) else none))))))
set_option maxRecDepth 100000 in
set_option maxHeartbeats 4000000 in
theorem ctX5_alike (n : Nat) (a1 : Int32) (h : aw_H) (y : Int32) (hF : FX5_alike n a1 h = some y) : Ct 3 0 0 yX5_alike cX5_alike 3 (some .int) [.ref 0, .int a1] wL wR h (aw_D (some (.int y)) h) := by
  refine Ct.of (ls0 := [.ref 0, .int a1, .retAddr 0]) (by decide +kernel) rfl rfl (fun X C E hnm => ?_)
  have C : aw_C X RX5 cX5_alike 3 3 0 0 := C
  unfold FX5_alike at hF
  refine aw_iload_1 C dX5_alike_0 ?_
  refine aw_iconst C dX5_alike_1 li_m1 ?_
  refine bw_icmp_ne (tgt := 13) C dX5_alike_2 (by decide) hF (fun hF => ?_) (fun hF => ?_)
  · refine aw_aload_0 C dX5_alike_13 ?_
    refine aw_getR C dX5_alike_14 fX5_12 gX5_0 rfl rfl ?_
    refine aw_iload_1 C dX5_alike_17 ?_
    obtain ⟨q1, e2, hF⟩ := bw_bind hF
    refine bw_V1q C dX5_alike_18 kyX4_wheelOf lX5_69 kiX4_wheelOf kvX4_wheelOf (aw_rv C rfl rfl) rfl rfl (ctX4_wheelOf a1 h q1 e2) ?_
    refine bw_on hF (fun hF => ?_) (fun w3 hF => ?_)
    · refine aw_astoreN_2 C dX5_alike_21 rfl rfl ?_
      refine aw_aloadN_2 C dX5_alike_22 ?_
      refine aw_ifnonnullN C dX5_alike_23 ?_
      refine aw_bipush C dX5_alike_26 lb_m2 ?_
      refine aw_goto (tgt := 39) C dX5_alike_28 (by decide) ?_
      obtain rfl := Option.some.inj hF
      exact aw_iret C E dX5_alike_39 rfl rfl (bw_ret rfl)
    · obtain ⟨s4, hF⟩ := bw_side hF
      refine aw_astore_2 C dX5_alike_21 rfl rfl ?_
      refine aw_aload_2 C dX5_alike_22 ?_
      refine aw_ifnonnullR (tgt := 31) C dX5_alike_23 (by decide) ?_
      refine aw_aload_0 C dX5_alike_31 ?_
      refine aw_getR C dX5_alike_32 fX5_12 gX5_0 rfl rfl ?_
      refine aw_aload_2 C dX5_alike_35 ?_
      obtain ⟨q5, e6, hF⟩ := bw_bind hF
      refine bw_V1i C dX5_alike_36 kyX4_likeOnes lX5_216 kiX4_likeOnes kvX4_likeOnes (aw_rv C rfl rfl) rfl rfl (ctX4_likeOnes n w3 h s4 q5 e6) ?_
      obtain rfl := Option.some.inj hF
      exact aw_iret C E dX5_alike_39 rfl rfl (bw_ret rfl)
  · refine aw_aload_0 C dX5_alike_5 ?_
    refine aw_getR C dX5_alike_6 fX5_12 gX5_0 rfl rfl ?_
    obtain ⟨q7, e8, hF⟩ := bw_bind hF
    refine bw_V0i C dX5_alike_9 kyX4_groups lX5_213 kiX4_groups kvX4_groups (aw_rv C rfl rfl) rfl rfl (ctX4_groups n h q7 e8) ?_
    obtain rfl := Option.some.inj hF
    exact aw_iret C E dX5_alike_12 rfl rfl (bw_ret rfl)
def BX5_levelByLot_8 (a2 : Int32) (u8 : (Int32 × Int64 × Int32 × aw_H)) : Option ((Int32 × Int64 × Int32 × aw_H) ⊕ (Int64 × aw_H)) :=
  (if (u8.2.2.2.1 1 1) ≤ u8.2.2.1 then some (Sum.inr (u8.2.1, u8.2.2.2)) else (if aw_inb u8.2.2.1 6 = true then ((FX3_become 57 (3 + 4 * (u8.2.2.1).toNatClampNeg) u8.2.2.2).bind (fun q2 => ((FX3_swing 57 a2 (aw_sI q2 (57 + 1) 3 (((((u8.1 * (1103515245 : Int32)) + (12345 : Int32))).toUInt32 >>> (((9 : Int32)).toUInt32 &&& Int32.toUInt32 31)).toInt32 - (((((u8.1 * (1103515245 : Int32)) + (12345 : Int32))).toUInt32 >>> (((9 : Int32)).toUInt32 &&& Int32.toUInt32 31)).toInt32 / (1024 : Int32)) * (1024 : Int32)))).bind (fun q4 => some (Sum.inl (((u8.1 * (1103515245 : Int32)) + (12345 : Int32)), (u8.2.1 + q4), (u8.2.2.1 + (1 : Int32)), (aw_sI q2 (57 + 1) 3 (((((u8.1 * (1103515245 : Int32)) + (12345 : Int32))).toUInt32 >>> (((9 : Int32)).toUInt32 &&& Int32.toUInt32 31)).toInt32 - (((((u8.1 * (1103515245 : Int32)) + (12345 : Int32))).toUInt32 >>> (((9 : Int32)).toUInt32 &&& Int32.toUInt32 31)).toInt32 / (1024 : Int32)) * (1024 : Int32))))))))) else none))
def FX5_levelByLot (n : Nat) (a1 : Int32) (a2 : Int32) (h : aw_H) : Option (Int64 × aw_H) :=
  aw_loop (BX5_levelByLot_8 a2) n (a1, (0 : Int64), (0 : Int32), h)
set_option maxRecDepth 100000 in
set_option maxHeartbeats 4000000 in
theorem ctX5_levelByLot (n : Nat) (a1 : Int32) (a2 : Int32) (h : aw_H) (y : Int64 × aw_H) (hF : FX5_levelByLot n a1 a2 h = some y) : Ct 4 0 0 yX5_levelByLot cX5_levelByLot 7 (some .long) [.ref 0, .int a1, .int a2] wL wR h (aw_D (some (.long y.1)) y.2) := by
  refine Ct.of (ls0 := [.ref 0, .int a1, .int a2, .retAddr 0, .retAddr 0, .retAddr 0, .retAddr 0]) (by decide +kernel) rfl rfl (fun X C E hnm => ?_)
  have C : aw_C X RX5 cX5_levelByLot 7 4 0 0 := C
  unfold FX5_levelByLot at hF
  refine aw_iload_1 C dX5_levelByLot_0 ?_
  refine aw_istore_3 C dX5_levelByLot_1 rfl rfl ?_
  refine aw_lconst C dX5_levelByLot_2 ll_0 ?_
  refine aw_lstore_4 C dX5_levelByLot_3 rfl rfl ?_
  refine aw_iconst C dX5_levelByLot_5 li_0 ?_
  refine aw_istore_6 C dX5_levelByLot_6 rfl rfl ?_
  refine aw_weak (show aw_le [.ref 0, .retAddr 0, .int a2, .int a1, .long (0 : Int64), .retAddr 0, .int (0 : Int32)] [.ref 0, .int a1, .int a2, .int a1, .long (0 : Int64), .retAddr 0, .int (0 : Int32)] from ⟨Or.inr rfl, Or.inl rfl, Or.inr rfl, Or.inr rfl, Or.inr rfl, Or.inr rfl, Or.inr rfl, trivial⟩) ?_
  refine aw_loop_rule (fun u8 : (Int32 × Int64 × Int32 × aw_H) => AW X 7 8 [.ref 0, .retAddr 0, .int a2, .int u8.1, .long u8.2.1, .retAddr 0, .int u8.2.2.1] [] wL wR u8.2.2.2 0 0) (fun q => q = y) (fun u8 y8 hF hK => ?_) n (a1, (0 : Int64), (0 : Int32), h) _ hF rfl
  unfold BX5_levelByLot_8 at hF
  refine aw_iload_6 C dX5_levelByLot_8 ?_
  refine aw_aload_0 C dX5_levelByLot_10 ?_
  refine aw_getR C dX5_levelByLot_11 fX5_12 gX5_0 rfl rfl ?_
  refine aw_getI C dX5_levelByLot_14 fX5_65 gX4_1 rfl ?_
  refine bw_icmp_ge (tgt := 83) C dX5_levelByLot_17 (by decide) hF (fun hF => ?_) (fun hF => ?_)
  · refine aw_lload_4 C dX5_levelByLot_83 ?_
    obtain rfl := Option.some.inj hF
    have hK : _ = y := hK
    subst hK
    exact aw_lret C E dX5_levelByLot_85 rfl rfl (bw_ret rfl)
  · refine aw_iload_3 C dX5_levelByLot_20 ?_
    refine aw_ldcw C dX5_levelByLot_21 nX5_296 ?_
    refine aw_imul C dX5_levelByLot_24 ?_
    refine aw_sipush C dX5_levelByLot_25 ls_12345 ?_
    refine aw_iadd C dX5_levelByLot_28 ?_
    refine aw_istore_3 C dX5_levelByLot_29 rfl rfl ?_
    refine aw_aload_0 C dX5_levelByLot_30 ?_
    refine aw_getR C dX5_levelByLot_31 fX5_41 gX5_5 rfl rfl ?_
    refine aw_aload_0 C dX5_levelByLot_34 ?_
    refine aw_getR C dX5_levelByLot_35 fX5_12 gX5_0 rfl rfl ?_
    refine aw_getR C dX5_levelByLot_38 fX5_288 gX4_0 rfl rfl ?_
    refine aw_iload_6 C dX5_levelByLot_41 ?_
    obtain ⟨s1, hF⟩ := bw_side hF
    refine aw_aald (t := 0) C dX5_levelByLot_43 (by decide) rfl (aw_ix s1) (aw_wh s1).1 ?_
    obtain ⟨q2, e3, hF⟩ := bw_bind hF
    refine bw_V1v C dX5_levelByLot_44 kyX3_become lX5_284 kiX3_become kvX3_become (aw_rv C rfl rfl) rfl rfl (ctX3_become 57 (3 + 4 * (u8.2.2.1).toNatClampNeg) u8.2.2.2 rfl (aw_wh s1).2 q2 e3) ?_
    refine aw_aload_0 C dX5_levelByLot_47 ?_
    refine aw_getR C dX5_levelByLot_48 fX5_41 gX5_5 rfl rfl ?_
    refine aw_getR C dX5_levelByLot_51 fX5_102 gX3_0 rfl rfl ?_
    refine aw_iconst C dX5_levelByLot_54 li_3 ?_
    refine aw_iload_3 C dX5_levelByLot_55 ?_
    refine aw_bipush C dX5_levelByLot_56 lb_9 ?_
    refine aw_iushr C dX5_levelByLot_58 rfl ?_
    refine aw_sipush C dX5_levelByLot_59 ls_1024 ?_
    refine aw_irem C dX5_levelByLot_62 (by decide) ?_
    refine aw_iast C dX5_levelByLot_63 rfl (aw_ixk (k := 3) (n := 4) rfl rfl) ?_
    refine aw_lload_4 C dX5_levelByLot_64 ?_
    refine aw_aload_0 C dX5_levelByLot_66 ?_
    refine aw_getR C dX5_levelByLot_67 fX5_41 gX5_5 rfl rfl ?_
    refine aw_iload_2 C dX5_levelByLot_70 ?_
    obtain ⟨q4, e5, hF⟩ := bw_bind hF
    refine bw_V1l C dX5_levelByLot_71 kyX3_swing lX5_151 kiX3_swing kvX3_swing (aw_rv C rfl rfl) rfl rfl (ctX3_swing 57 a2 (aw_sI q2 (57 + 1) 3 (((((u8.1 * (1103515245 : Int32)) + (12345 : Int32))).toUInt32 >>> (((9 : Int32)).toUInt32 &&& Int32.toUInt32 31)).toInt32 - (((((u8.1 * (1103515245 : Int32)) + (12345 : Int32))).toUInt32 >>> (((9 : Int32)).toUInt32 &&& Int32.toUInt32 31)).toInt32 / (1024 : Int32)) * (1024 : Int32))) rfl q4 e5) ?_
    refine aw_ladd C dX5_levelByLot_74 ?_
    refine aw_lstore_4 C dX5_levelByLot_75 rfl rfl ?_
    refine aw_iinc_6 C dX5_levelByLot_77 li_1 rfl rfl ?_
    refine aw_goto (tgt := 8) C dX5_levelByLot_80 (by decide) ?_
    cases hF
    exact hK
def FX5_drawn (n : Nat) (a1 : Int32) (a2 : Int32) (h : aw_H) : Option (Int64 × aw_H) :=
  (if (FX5_isTick a2) = 0 then some ((-9223372036854775808 : Int64), h) else ((FX5_levelByLot n a1 a2 h).bind (fun q1 => some (q1.1, q1.2))))
set_option maxRecDepth 100000 in
set_option maxHeartbeats 4000000 in
theorem ctX5_drawn (n : Nat) (a1 : Int32) (a2 : Int32) (h : aw_H) (y : Int64 × aw_H) (hF : FX5_drawn n a1 a2 h = some y) : Ct 5 0 0 yX5_drawn cX5_drawn 3 (some .long) [.ref 0, .int a1, .int a2] wL wR h (aw_D (some (.long y.1)) y.2) := by
  refine Ct.of (ls0 := [.ref 0, .int a1, .int a2]) (by decide +kernel) rfl rfl (fun X C E hnm => ?_)
  have C : aw_C X RX5 cX5_drawn 3 5 0 0 := C
  unfold FX5_drawn at hF
  refine aw_iload_2 C dX5_drawn_0 ?_
  refine bw_S1i C dX5_drawn_1 kyX5_isTick lX5_148 ksX5_isTick rfl rfl (ctX5_isTick a2 h _ rfl) ?_
  refine bw_if_eq (tgt := 16) C dX5_drawn_4 (by decide) hF (fun hF => ?_) (fun hF => ?_)
  · refine aw_ldc2 C dX5_drawn_16 nX5_131 ?_
    obtain rfl := Option.some.inj hF
    exact aw_lret C E dX5_drawn_19 rfl rfl (bw_ret rfl)
  · refine aw_aload_0 C dX5_drawn_7 ?_
    refine aw_iload_1 C dX5_drawn_8 ?_
    refine aw_iload_2 C dX5_drawn_9 ?_
    obtain ⟨q1, e2, hF⟩ := bw_bind hF
    refine bw_V2l C dX5_drawn_10 kyX5_levelByLot lX5_220 kiX5_levelByLot kvX5_levelByLot (aw_rv C rfl rfl) rfl rfl (ctX5_levelByLot n a1 a2 h q1 e2) ?_
    refine aw_goto (tgt := 19) C dX5_drawn_13 (by decide) ?_
    obtain rfl := Option.some.inj hF
    exact aw_lret C E dX5_drawn_19 rfl rfl (bw_ret rfl)
def BX5_chance_36 (n : Nat) (a1 : Int32) (a2 : Int32) (a3 : Int32) (a4 : Int32) (a5 : Int32) (u36 : (Int32 × Int32 × aw_H)) : Option ((Int32 × Int32 × aw_H) ⊕ (Int32 × aw_H)) :=
  (if a2 ≤ u36.2.1 then ((FX5_lowest n ((u36.1).toInt64) ((a2).toInt64) a5).bind (fun q1 => some (Sum.inr ((q1).toInt32, u36.2.2)))) else ((FX5_levelByLot n (a1 + u36.2.1) a3 u36.2.2).bind (fun q3 => (if (lg_cmp q3.1 ((a4).toInt64)) < 0 then some (Sum.inl (u36.1, (u36.2.1 + (1 : Int32)), q3.2)) else some (Sum.inl ((u36.1 + (1 : Int32)), (u36.2.1 + (1 : Int32)), q3.2))))))
def FX5_chance (n : Nat) (a1 : Int32) (a2 : Int32) (a3 : Int32) (a4 : Int32) (a5 : Int32) (h : aw_H) : Option (Int32 × aw_H) :=
  (if (FX5_within a2 (1 : Int32) (20 : Int32)) = 0 then some ((-2 : Int32), h) else (if (FX5_isTick a3) = 0 then some ((-2 : Int32), h) else (if (FX5_within a5 (0 : Int32) (1 : Int32)) = 0 then some ((-2 : Int32), h) else aw_loop (BX5_chance_36 n a1 a2 a3 a4 a5) n ((0 : Int32), (0 : Int32), h))))
set_option maxRecDepth 100000 in
set_option maxHeartbeats 4000000 in
theorem ctX5_chance (n : Nat) (a1 : Int32) (a2 : Int32) (a3 : Int32) (a4 : Int32) (a5 : Int32) (h : aw_H) (y : Int32 × aw_H) (hF : FX5_chance n a1 a2 a3 a4 a5 h = some y) : Ct 5 0 0 yX5_chance cX5_chance 8 (some .int) [.ref 0, .int a1, .int a2, .int a3, .int a4, .int a5] wL wR h (aw_D (some (.int y.1)) y.2) := by
  refine Ct.of (ls0 := [.ref 0, .int a1, .int a2, .int a3, .int a4, .int a5, .retAddr 0, .retAddr 0]) (by decide +kernel) rfl rfl (fun X C E hnm => ?_)
  have C : aw_C X RX5 cX5_chance 8 5 0 0 := C
  unfold FX5_chance at hF
  refine aw_iload_2 C dX5_chance_0 ?_
  refine aw_iconst C dX5_chance_1 li_1 ?_
  refine aw_bipush C dX5_chance_2 lb_20 ?_
  refine bw_S3i C dX5_chance_4 kyX5_within lX5_91 ksX5_within rfl rfl (ctX5_within a2 (1 : Int32) (20 : Int32) h _ rfl) ?_
  refine bw_if_eq (tgt := 27) C dX5_chance_7 (by decide) hF (fun hF => ?_) (fun hF => ?_)
  · refine aw_bipush C dX5_chance_27 lb_m2 ?_
    obtain rfl := Option.some.inj hF
    exact aw_iret C E dX5_chance_29 rfl rfl (bw_ret rfl)
  · refine aw_iload_3 C dX5_chance_10 ?_
    refine bw_S1i C dX5_chance_11 kyX5_isTick lX5_148 ksX5_isTick rfl rfl (ctX5_isTick a3 h _ rfl) ?_
    refine bw_if_eq (tgt := 27) C dX5_chance_14 (by decide) hF (fun hF => ?_) (fun hF => ?_)
    · refine aw_bipush C dX5_chance_27 lb_m2 ?_
      obtain rfl := Option.some.inj hF
      exact aw_iret C E dX5_chance_29 rfl rfl (bw_ret rfl)
    · refine aw_iload_5 C dX5_chance_17 ?_
      refine aw_iconst C dX5_chance_19 li_0 ?_
      refine aw_iconst C dX5_chance_20 li_1 ?_
      refine bw_S3i C dX5_chance_21 kyX5_within lX5_91 ksX5_within rfl rfl (ctX5_within a5 (0 : Int32) (1 : Int32) h _ rfl) ?_
      refine bw_if_ne (tgt := 30) C dX5_chance_24 (by decide) hF (fun hF => ?_) (fun hF => ?_)
      · refine aw_iconst C dX5_chance_30 li_0 ?_
        refine aw_istore_6 C dX5_chance_31 rfl rfl ?_
        refine aw_iconst C dX5_chance_33 li_0 ?_
        refine aw_istore_7 C dX5_chance_34 rfl rfl ?_
        refine aw_loop_rule (fun u36 : (Int32 × Int32 × aw_H) => AW X 8 36 [.ref 0, .int a1, .int a2, .int a3, .int a4, .int a5, .int u36.1, .int u36.2.1] [] wL wR u36.2.2 0 0) (fun q => q = y) (fun u36 y36 hF hK => ?_) n ((0 : Int32), (0 : Int32), h) _ hF rfl
        unfold BX5_chance_36 at hF
        refine aw_iload_7 C dX5_chance_36 ?_
        refine aw_iload_2 C dX5_chance_38 ?_
        refine bw_icmp_ge (tgt := 67) C dX5_chance_39 (by decide) hF (fun hF => ?_) (fun hF => ?_)
        · refine aw_iload_6 C dX5_chance_67 ?_
          refine aw_i2l C dX5_chance_69 ?_
          refine aw_iload_2 C dX5_chance_70 ?_
          refine aw_i2l C dX5_chance_71 ?_
          refine aw_iload_5 C dX5_chance_72 ?_
          obtain ⟨q1, e2, hF⟩ := bw_bind hF
          refine bw_S3l C dX5_chance_74 kyX5_lowest lX5_209 ksX5_lowest rfl rfl (ctX5_lowest n ((u36.1).toInt64) ((a2).toInt64) a5 u36.2.2 q1 e2) ?_
          refine aw_l2i C dX5_chance_77 ?_
          obtain rfl := Option.some.inj hF
          have hK : _ = y := hK
          subst hK
          exact aw_iret C E dX5_chance_78 rfl rfl (bw_ret rfl)
        · refine aw_aload_0 C dX5_chance_42 ?_
          refine aw_iload_1 C dX5_chance_43 ?_
          refine aw_iload_7 C dX5_chance_44 ?_
          refine aw_iadd C dX5_chance_46 ?_
          refine aw_iload_3 C dX5_chance_47 ?_
          obtain ⟨q3, e4, hF⟩ := bw_bind hF
          refine bw_V2l C dX5_chance_48 kyX5_levelByLot lX5_220 kiX5_levelByLot kvX5_levelByLot (aw_rv C rfl rfl) rfl rfl (ctX5_levelByLot n (a1 + u36.2.1) a3 u36.2.2 q3 e4) ?_
          refine aw_iload_4 C dX5_chance_51 ?_
          refine aw_i2l C dX5_chance_53 ?_
          refine aw_lcmp C dX5_chance_54 ?_
          refine bw_if_lt (tgt := 61) C dX5_chance_55 (by decide) hF (fun hF => ?_) (fun hF => ?_)
          · refine aw_iinc_7 C dX5_chance_61 li_1 rfl rfl ?_
            refine aw_goto (tgt := 36) C dX5_chance_64 (by decide) ?_
            cases hF
            exact hK
          · refine aw_iinc_6 C dX5_chance_58 li_1 rfl rfl ?_
            refine aw_iinc_7 C dX5_chance_61 li_1 rfl rfl ?_
            refine aw_goto (tgt := 36) C dX5_chance_64 (by decide) ?_
            cases hF
            exact hK
      · refine aw_bipush C dX5_chance_27 lb_m2 ?_
        obtain rfl := Option.some.inj hF
        exact aw_iret C E dX5_chance_29 rfl rfl (bw_ret rfl)
def FX5_isByte (a1 : Int32) : Int32 :=
  (FX5_within a1 (0 : Int32) (255 : Int32))
set_option maxRecDepth 100000 in
set_option maxHeartbeats 4000000 in
theorem ctX5_isByte (a1 : Int32) (h : aw_H) (y : Int32) (hF : FX5_isByte a1 = y) : Ct 1 0 0 yX5_isByte cX5_isByte 1 (some .boolean) [.int a1] wL wR h (aw_D (some (.int y)) h) := by
  refine Ct.of (ls0 := [.int a1]) (by decide +kernel) rfl rfl (fun X C E hnm => ?_)
  have C : aw_C X RX5 cX5_isByte 1 1 0 0 := C
  unfold FX5_isByte at hF
  refine aw_iload_0 C dX5_isByte_0 ?_
  refine aw_iconst C dX5_isByte_1 li_0 ?_
  refine aw_sipush C dX5_isByte_2 ls_255 ?_
  refine bw_S3i C dX5_isByte_5 kyX5_within lX5_91 ksX5_within rfl rfl (ctX5_within a1 (0 : Int32) (255 : Int32) h _ rfl) ?_
  subst hF
  exact aw_zret C E (aw_nz (bX5_within a1 (0 : Int32) (255 : Int32))) dX5_isByte_8 rfl rfl (bw_ret rfl)
theorem bX5_isByte (a1 : Int32) : FX5_isByte a1 = 0 ∨ FX5_isByte a1 = 1 := by
  unfold FX5_isByte
  repeat' split
  all_goals first | exact Or.inl rfl | exact Or.inr rfl | exact bX5_within _ _ _
def BX5_feed_70 (a1 : Int32) (a2 : Int32) (a3 : Int32) (a4 : Int32) (a5 : Int32) (a6 : Int32) (u70 : (Int32 × aw_H)) : Option ((Int32 × aw_H) ⊕ (Int32 × aw_H)) :=
  (if a1 ≤ u70.1 then some (Sum.inr ((u70.2.1 54 1), u70.2)) else (if u70.1 = 0 then ((FX2_addByte a2 u70.2).bind (fun q9 => some (Sum.inl ((u70.1 + (1 : Int32)), q9)))) else (if u70.1 = (1 : Int32) then ((FX2_addByte a3 u70.2).bind (fun q7 => some (Sum.inl ((u70.1 + (1 : Int32)), q7)))) else (if u70.1 = (2 : Int32) then ((FX2_addByte a4 u70.2).bind (fun q5 => some (Sum.inl ((u70.1 + (1 : Int32)), q5)))) else (if u70.1 = (3 : Int32) then ((FX2_addByte a5 u70.2).bind (fun q3 => some (Sum.inl ((u70.1 + (1 : Int32)), q3)))) else ((FX2_addByte a6 u70.2).bind (fun q1 => some (Sum.inl ((u70.1 + (1 : Int32)), q1)))))))))
def FX5_feed (n : Nat) (a1 : Int32) (a2 : Int32) (a3 : Int32) (a4 : Int32) (a5 : Int32) (a6 : Int32) (h : aw_H) : Option (Int32 × aw_H) :=
  (if (FX5_within a1 (1 : Int32) (5 : Int32)) = 0 then some ((-2 : Int32), h) else (if (FX5_isByte a2) = 0 then some ((-2 : Int32), h) else (if (FX5_isByte a3) = 0 then some ((-2 : Int32), h) else (if (FX5_isByte a4) = 0 then some ((-2 : Int32), h) else (if (FX5_isByte a5) = 0 then some ((-2 : Int32), h) else (if (FX5_isByte a6) = 0 then some ((-2 : Int32), h) else (if ((h.1 54 1) + a1) ≤ (60 : Int32) then aw_loop (BX5_feed_70 a1 a2 a3 a4 a5 a6) n ((0 : Int32), h) else some ((-4 : Int32), h))))))))
set_option maxRecDepth 100000 in
set_option maxHeartbeats 4000000 in
theorem ctX5_feed (n : Nat) (a1 : Int32) (a2 : Int32) (a3 : Int32) (a4 : Int32) (a5 : Int32) (a6 : Int32) (h : aw_H) (y : Int32 × aw_H) (hF : FX5_feed n a1 a2 a3 a4 a5 a6 h = some y) : Ct 2 0 0 yX5_feed cX5_feed 8 (some .int) [.ref 0, .int a1, .int a2, .int a3, .int a4, .int a5, .int a6] wL wR h (aw_D (some (.int y.1)) y.2) := by
  refine Ct.of (ls0 := [.ref 0, .int a1, .int a2, .int a3, .int a4, .int a5, .int a6, .retAddr 0]) (by decide +kernel) rfl rfl (fun X C E hnm => ?_)
  have C : aw_C X RX5 cX5_feed 8 2 0 0 := C
  unfold FX5_feed at hF
  refine aw_iload_1 C dX5_feed_0 ?_
  refine aw_iconst C dX5_feed_1 li_1 ?_
  refine aw_iconst C dX5_feed_2 li_5 ?_
  refine bw_S3i C dX5_feed_3 kyX5_within lX5_91 ksX5_within rfl rfl (ctX5_within a1 (1 : Int32) (5 : Int32) h _ rfl) ?_
  refine bw_if_eq (tgt := 47) C dX5_feed_6 (by decide) hF (fun hF => ?_) (fun hF => ?_)
  · refine aw_bipush C dX5_feed_47 lb_m2 ?_
    obtain rfl := Option.some.inj hF
    exact aw_iret C E dX5_feed_49 rfl rfl (bw_ret rfl)
  · refine aw_iload_2 C dX5_feed_9 ?_
    refine bw_S1i C dX5_feed_10 kyX5_isByte lX5_224 ksX5_isByte rfl rfl (ctX5_isByte a2 h _ rfl) ?_
    refine bw_if_eq (tgt := 47) C dX5_feed_13 (by decide) hF (fun hF => ?_) (fun hF => ?_)
    · refine aw_bipush C dX5_feed_47 lb_m2 ?_
      obtain rfl := Option.some.inj hF
      exact aw_iret C E dX5_feed_49 rfl rfl (bw_ret rfl)
    · refine aw_iload_3 C dX5_feed_16 ?_
      refine bw_S1i C dX5_feed_17 kyX5_isByte lX5_224 ksX5_isByte rfl rfl (ctX5_isByte a3 h _ rfl) ?_
      refine bw_if_eq (tgt := 47) C dX5_feed_20 (by decide) hF (fun hF => ?_) (fun hF => ?_)
      · refine aw_bipush C dX5_feed_47 lb_m2 ?_
        obtain rfl := Option.some.inj hF
        exact aw_iret C E dX5_feed_49 rfl rfl (bw_ret rfl)
      · refine aw_iload_4 C dX5_feed_23 ?_
        refine bw_S1i C dX5_feed_25 kyX5_isByte lX5_224 ksX5_isByte rfl rfl (ctX5_isByte a4 h _ rfl) ?_
        refine bw_if_eq (tgt := 47) C dX5_feed_28 (by decide) hF (fun hF => ?_) (fun hF => ?_)
        · refine aw_bipush C dX5_feed_47 lb_m2 ?_
          obtain rfl := Option.some.inj hF
          exact aw_iret C E dX5_feed_49 rfl rfl (bw_ret rfl)
        · refine aw_iload_5 C dX5_feed_31 ?_
          refine bw_S1i C dX5_feed_33 kyX5_isByte lX5_224 ksX5_isByte rfl rfl (ctX5_isByte a5 h _ rfl) ?_
          refine bw_if_eq (tgt := 47) C dX5_feed_36 (by decide) hF (fun hF => ?_) (fun hF => ?_)
          · refine aw_bipush C dX5_feed_47 lb_m2 ?_
            obtain rfl := Option.some.inj hF
            exact aw_iret C E dX5_feed_49 rfl rfl (bw_ret rfl)
          · refine aw_iload_6 C dX5_feed_39 ?_
            refine bw_S1i C dX5_feed_41 kyX5_isByte lX5_224 ksX5_isByte rfl rfl (ctX5_isByte a6 h _ rfl) ?_
            refine bw_if_ne (tgt := 50) C dX5_feed_44 (by decide) hF (fun hF => ?_) (fun hF => ?_)
            · refine aw_aload_0 C dX5_feed_50 ?_
              refine aw_getR C dX5_feed_51 fX5_34 gX5_4 rfl rfl ?_
              refine aw_getI C dX5_feed_54 fX5_227 gX2_1 rfl ?_
              refine aw_iload_1 C dX5_feed_57 ?_
              refine aw_iadd C dX5_feed_58 ?_
              refine aw_bipush C dX5_feed_59 lb_60 ?_
              refine bw_icmp_le (tgt := 67) C dX5_feed_61 (by decide) hF (fun hF => ?_) (fun hF => ?_)
              · refine aw_iconst C dX5_feed_67 li_0 ?_
                refine aw_istore_7 C dX5_feed_68 rfl rfl ?_
                refine aw_loop_rule (fun u70 : (Int32 × aw_H) => AW X 8 70 [.ref 0, .int a1, .int a2, .int a3, .int a4, .int a5, .int a6, .int u70.1] [] wL wR u70.2 0 0) (fun q => q = y) (fun u70 y70 hF hK => ?_) n ((0 : Int32), h) _ hF rfl
                unfold BX5_feed_70 at hF
                refine aw_iload_7 C dX5_feed_70 ?_
                refine aw_iload_1 C dX5_feed_72 ?_
                refine bw_icmp_ge (tgt := 132) C dX5_feed_73 (by decide) hF (fun hF => ?_) (fun hF => ?_)
                · refine aw_aload_0 C dX5_feed_132 ?_
                  refine aw_getR C dX5_feed_133 fX5_34 gX5_4 rfl rfl ?_
                  refine aw_getI C dX5_feed_136 fX5_227 gX2_1 rfl ?_
                  obtain rfl := Option.some.inj hF
                  have hK : _ = y := hK
                  subst hK
                  exact aw_iret C E dX5_feed_139 rfl rfl (bw_ret rfl)
                · refine aw_aload_0 C dX5_feed_76 ?_
                  refine aw_getR C dX5_feed_77 fX5_34 gX5_4 rfl rfl ?_
                  refine aw_iload_7 C dX5_feed_80 ?_
                  refine bw_if_ne (tgt := 89) C dX5_feed_82 (by decide) hF (fun hF => ?_) (fun hF => ?_)
                  · refine aw_iload_7 C dX5_feed_89 ?_
                    refine aw_iconst C dX5_feed_91 li_1 ?_
                    refine bw_icmp_ne (tgt := 99) C dX5_feed_92 (by decide) hF (fun hF => ?_) (fun hF => ?_)
                    · refine aw_iload_7 C dX5_feed_99 ?_
                      refine aw_iconst C dX5_feed_101 li_2 ?_
                      refine bw_icmp_ne (tgt := 110) C dX5_feed_102 (by decide) hF (fun hF => ?_) (fun hF => ?_)
                      · refine aw_iload_7 C dX5_feed_110 ?_
                        refine aw_iconst C dX5_feed_112 li_3 ?_
                        refine bw_icmp_ne (tgt := 121) C dX5_feed_113 (by decide) hF (fun hF => ?_) (fun hF => ?_)
                        · refine aw_iload_6 C dX5_feed_121 ?_
                          obtain ⟨q1, e2, hF⟩ := bw_bind hF
                          refine bw_V1v C dX5_feed_123 kyX2_addByte lX5_230 kiX2_addByte kvX2_addByte (aw_rv C rfl rfl) rfl rfl (ctX2_addByte a6 u70.2 q1 e2) ?_
                          refine aw_iinc_7 C dX5_feed_126 li_1 rfl rfl ?_
                          refine aw_goto (tgt := 70) C dX5_feed_129 (by decide) ?_
                          cases hF
                          exact hK
                        · refine aw_iload_5 C dX5_feed_116 ?_
                          refine aw_goto (tgt := 123) C dX5_feed_118 (by decide) ?_
                          obtain ⟨q3, e4, hF⟩ := bw_bind hF
                          refine bw_V1v C dX5_feed_123 kyX2_addByte lX5_230 kiX2_addByte kvX2_addByte (aw_rv C rfl rfl) rfl rfl (ctX2_addByte a5 u70.2 q3 e4) ?_
                          refine aw_iinc_7 C dX5_feed_126 li_1 rfl rfl ?_
                          refine aw_goto (tgt := 70) C dX5_feed_129 (by decide) ?_
                          cases hF
                          exact hK
                      · refine aw_iload_4 C dX5_feed_105 ?_
                        refine aw_goto (tgt := 123) C dX5_feed_107 (by decide) ?_
                        obtain ⟨q5, e6, hF⟩ := bw_bind hF
                        refine bw_V1v C dX5_feed_123 kyX2_addByte lX5_230 kiX2_addByte kvX2_addByte (aw_rv C rfl rfl) rfl rfl (ctX2_addByte a4 u70.2 q5 e6) ?_
                        refine aw_iinc_7 C dX5_feed_126 li_1 rfl rfl ?_
                        refine aw_goto (tgt := 70) C dX5_feed_129 (by decide) ?_
                        cases hF
                        exact hK
                    · refine aw_iload_3 C dX5_feed_95 ?_
                      refine aw_goto (tgt := 123) C dX5_feed_96 (by decide) ?_
                      obtain ⟨q7, e8, hF⟩ := bw_bind hF
                      refine bw_V1v C dX5_feed_123 kyX2_addByte lX5_230 kiX2_addByte kvX2_addByte (aw_rv C rfl rfl) rfl rfl (ctX2_addByte a3 u70.2 q7 e8) ?_
                      refine aw_iinc_7 C dX5_feed_126 li_1 rfl rfl ?_
                      refine aw_goto (tgt := 70) C dX5_feed_129 (by decide) ?_
                      cases hF
                      exact hK
                  · refine aw_iload_2 C dX5_feed_85 ?_
                    refine aw_goto (tgt := 123) C dX5_feed_86 (by decide) ?_
                    obtain ⟨q9, e10, hF⟩ := bw_bind hF
                    refine bw_V1v C dX5_feed_123 kyX2_addByte lX5_230 kiX2_addByte kvX2_addByte (aw_rv C rfl rfl) rfl rfl (ctX2_addByte a2 u70.2 q9 e10) ?_
                    refine aw_iinc_7 C dX5_feed_126 li_1 rfl rfl ?_
                    refine aw_goto (tgt := 70) C dX5_feed_129 (by decide) ?_
                    cases hF
                    exact hK
              · refine aw_bipush C dX5_feed_64 lb_m4 ?_
                obtain rfl := Option.some.inj hF
                exact aw_iret C E dX5_feed_66 rfl rfl (bw_ret rfl)
            · refine aw_bipush C dX5_feed_47 lb_m2 ?_
              obtain rfl := Option.some.inj hF
              exact aw_iret C E dX5_feed_49 rfl rfl (bw_ret rfl)
def FX5_doClause (n : Nat) (a1 : Int32) (a2 : Int32) (h : aw_H) : Option (Int32 × aw_H) :=
  ((FX2_saidAt a2 h).bind (fun q1 => ((FX2_saidAt (a2 + (1 : Int32)) h).bind (fun q3 => ((FX2_saidAt (a2 + (2 : Int32)) h).bind (fun q5 => (if a1 = (0 : Int32) then ((FX2_saidAt (a2 + (3 : Int32)) h).bind (fun q7 => ((FX5_part n q1 q3 q5 q7 h).bind (fun q9 => some (q9.1, q9.2))))) else (if a1 = (1 : Int32) then ((FX5_gear n q1 q3 q5 h).bind (fun q12 => some (q12.1, q12.2))) else (if a1 = (2 : Int32) then ((FX5_shaft n q1 h).bind (fun q15 => some (q15.1, q15.2))) else (if a1 = (3 : Int32) then ((FX5_change q1 (3 : Int32) q3 h).bind (fun q18 => some (q18.1, q18.2))) else (if a1 = (4 : Int32) then ((FX5_change q1 (2 : Int32) q3 h).bind (fun q21 => some (q21.1, q21.2))) else some ((-2 : Int32), h))))))))))))
set_option maxRecDepth 100000 in
set_option maxHeartbeats 4000000 in
theorem ctX5_doClause (n : Nat) (a1 : Int32) (a2 : Int32) (h : aw_H) (y : Int32 × aw_H) (hF : FX5_doClause n a1 a2 h = some y) : Ct 5 0 0 yX5_doClause cX5_doClause 6 (some .int) [.ref 0, .int a1, .int a2] wL wR h (aw_D (some (.int y.1)) y.2) := by
  refine Ct.of (ls0 := [.ref 0, .int a1, .int a2, .retAddr 0, .retAddr 0, .retAddr 0]) (by decide +kernel) rfl rfl (fun X C E hnm => ?_)
  have C : aw_C X RX5 cX5_doClause 6 5 0 0 := C
  unfold FX5_doClause at hF
  refine aw_aload_0 C dX5_doClause_0 ?_
  refine aw_getR C dX5_doClause_1 fX5_34 gX5_4 rfl rfl ?_
  refine aw_iload_2 C dX5_doClause_4 ?_
  obtain ⟨q1, e2, hF⟩ := bw_bind hF
  refine bw_V1i C dX5_doClause_5 kyX2_saidAt lX5_239 kiX2_saidAt kvX2_saidAt (aw_rv C rfl rfl) rfl rfl (ctX2_saidAt a2 h q1 e2) ?_
  refine aw_istore_3 C dX5_doClause_8 rfl rfl ?_
  refine aw_aload_0 C dX5_doClause_9 ?_
  refine aw_getR C dX5_doClause_10 fX5_34 gX5_4 rfl rfl ?_
  refine aw_iload_2 C dX5_doClause_13 ?_
  refine aw_iconst C dX5_doClause_14 li_1 ?_
  refine aw_iadd C dX5_doClause_15 ?_
  obtain ⟨q3, e4, hF⟩ := bw_bind hF
  refine bw_V1i C dX5_doClause_16 kyX2_saidAt lX5_239 kiX2_saidAt kvX2_saidAt (aw_rv C rfl rfl) rfl rfl (ctX2_saidAt (a2 + (1 : Int32)) h q3 e4) ?_
  refine aw_istore_4 C dX5_doClause_19 rfl rfl ?_
  refine aw_aload_0 C dX5_doClause_21 ?_
  refine aw_getR C dX5_doClause_22 fX5_34 gX5_4 rfl rfl ?_
  refine aw_iload_2 C dX5_doClause_25 ?_
  refine aw_iconst C dX5_doClause_26 li_2 ?_
  refine aw_iadd C dX5_doClause_27 ?_
  obtain ⟨q5, e6, hF⟩ := bw_bind hF
  refine bw_V1i C dX5_doClause_28 kyX2_saidAt lX5_239 kiX2_saidAt kvX2_saidAt (aw_rv C rfl rfl) rfl rfl (ctX2_saidAt (a2 + (2 : Int32)) h q5 e6) ?_
  refine aw_istore_5 C dX5_doClause_31 rfl rfl ?_
  refine aw_iload_1 C dX5_doClause_33 ?_
  rcases Decidable.em (a1 = (0 : Int32)) with c11 | c11
  · rw [if_pos c11] at hF
    refine aw_tabIn (off := 34) (tgt := 68) C dX5_doClause_34 (by rw [c11]; decide) (by rw [c11]; decide) (by rw [c11]; rfl) (by decide) ?_
    refine aw_aload_0 C dX5_doClause_68 ?_
    refine aw_iload_3 C dX5_doClause_69 ?_
    refine aw_iload_4 C dX5_doClause_70 ?_
    refine aw_iload_5 C dX5_doClause_72 ?_
    refine aw_aload_0 C dX5_doClause_74 ?_
    refine aw_getR C dX5_doClause_75 fX5_34 gX5_4 rfl rfl ?_
    refine aw_iload_2 C dX5_doClause_78 ?_
    refine aw_iconst C dX5_doClause_79 li_3 ?_
    refine aw_iadd C dX5_doClause_80 ?_
    obtain ⟨q7, e8, hF⟩ := bw_bind hF
    refine bw_V1i C dX5_doClause_81 kyX2_saidAt lX5_239 kiX2_saidAt kvX2_saidAt (aw_rv C rfl rfl) rfl rfl (ctX2_saidAt (a2 + (3 : Int32)) h q7 e8) ?_
    obtain ⟨q9, e10, hF⟩ := bw_bind hF
    refine bw_V4i C dX5_doClause_84 kyX5_part lX5_297 kiX5_part kvX5_part (aw_rv C rfl rfl) rfl rfl (ctX5_part n q1 q3 q5 q7 h q9 e10) ?_
    obtain rfl := Option.some.inj hF
    exact aw_iret C E dX5_doClause_87 rfl rfl (bw_ret rfl)
  rw [if_neg c11] at hF
  rcases Decidable.em (a1 = (1 : Int32)) with c14 | c14
  · rw [if_pos c14] at hF
    refine aw_tabIn (off := 54) (tgt := 88) C dX5_doClause_34 (by rw [c14]; decide) (by rw [c14]; decide) (by rw [c14]; rfl) (by decide) ?_
    refine aw_aload_0 C dX5_doClause_88 ?_
    refine aw_iload_3 C dX5_doClause_89 ?_
    refine aw_iload_4 C dX5_doClause_90 ?_
    refine aw_iload_5 C dX5_doClause_92 ?_
    obtain ⟨q12, e13, hF⟩ := bw_bind hF
    refine bw_V3i C dX5_doClause_94 kyX5_gear lX5_300 kiX5_gear kvX5_gear (aw_rv C rfl rfl) rfl rfl (ctX5_gear n q1 q3 q5 h q12 e13) ?_
    obtain rfl := Option.some.inj hF
    exact aw_iret C E dX5_doClause_97 rfl rfl (bw_ret rfl)
  rw [if_neg c14] at hF
  rcases Decidable.em (a1 = (2 : Int32)) with c17 | c17
  · rw [if_pos c17] at hF
    refine aw_tabIn (off := 64) (tgt := 98) C dX5_doClause_34 (by rw [c17]; decide) (by rw [c17]; decide) (by rw [c17]; rfl) (by decide) ?_
    refine aw_aload_0 C dX5_doClause_98 ?_
    refine aw_iload_3 C dX5_doClause_99 ?_
    obtain ⟨q15, e16, hF⟩ := bw_bind hF
    refine bw_V1i C dX5_doClause_100 kyX5_shaft lX5_303 kiX5_shaft kvX5_shaft (aw_rv C rfl rfl) rfl rfl (ctX5_shaft n q1 h q15 e16) ?_
    obtain rfl := Option.some.inj hF
    exact aw_iret C E dX5_doClause_103 rfl rfl (bw_ret rfl)
  rw [if_neg c17] at hF
  rcases Decidable.em (a1 = (3 : Int32)) with c20 | c20
  · rw [if_pos c20] at hF
    refine aw_tabIn (off := 70) (tgt := 104) C dX5_doClause_34 (by rw [c20]; decide) (by rw [c20]; decide) (by rw [c20]; rfl) (by decide) ?_
    refine aw_aload_0 C dX5_doClause_104 ?_
    refine aw_iload_3 C dX5_doClause_105 ?_
    refine aw_iconst C dX5_doClause_106 li_3 ?_
    refine aw_iload_4 C dX5_doClause_107 ?_
    obtain ⟨q18, e19, hF⟩ := bw_bind hF
    refine bw_V3i C dX5_doClause_109 kyX5_change lX5_98 kiX5_change kvX5_change (aw_rv C rfl rfl) rfl rfl (ctX5_change q1 (3 : Int32) q3 h q18 e19) ?_
    obtain rfl := Option.some.inj hF
    exact aw_iret C E dX5_doClause_112 rfl rfl (bw_ret rfl)
  rw [if_neg c20] at hF
  rcases Decidable.em (a1 = (4 : Int32)) with c23 | c23
  · rw [if_pos c23] at hF
    refine aw_tabIn (off := 79) (tgt := 113) C dX5_doClause_34 (by rw [c23]; decide) (by rw [c23]; decide) (by rw [c23]; rfl) (by decide) ?_
    refine aw_aload_0 C dX5_doClause_113 ?_
    refine aw_iload_3 C dX5_doClause_114 ?_
    refine aw_iconst C dX5_doClause_115 li_2 ?_
    refine aw_iload_4 C dX5_doClause_116 ?_
    obtain ⟨q21, e22, hF⟩ := bw_bind hF
    refine bw_V3i C dX5_doClause_118 kyX5_change lX5_98 kiX5_change kvX5_change (aw_rv C rfl rfl) rfl rfl (ctX5_change q1 (2 : Int32) q3 h q21 e22) ?_
    obtain rfl := Option.some.inj hF
    exact aw_iret C E dX5_doClause_121 rfl rfl (bw_ret rfl)
  rw [if_neg c23] at hF
  refine aw_tabOut (tgt := 122) C dX5_doClause_34 (by
      have zc11 := bw_lit (z := 0) (by decide) c11
      have zc14 := bw_lit (z := 1) (by decide) c14
      have zc17 := bw_lit (z := 2) (by decide) c17
      have zc20 := bw_lit (z := 3) (by decide) c20
      have zc23 := bw_lit (z := 4) (by decide) c23
      omega) (by decide) ?_
  refine aw_bipush C dX5_doClause_122 lb_m2 ?_
  obtain rfl := Option.some.inj hF
  exact aw_iret C E dX5_doClause_124 rfl rfl (bw_ret rfl)
def BX5_text_33 (n : Nat) (u33 : (Int32 × Int32 × Int32 × aw_H)) : Option ((Int32 × Int32 × Int32 × aw_H) ⊕ (Int32 × aw_H)) :=
  (if (u33.2.2.2.1 54 7) ≤ u33.2.2.1 then some (Sum.inr (u33.1, u33.2.2.2)) else ((FX2_saidAt u33.2.1 u33.2.2.2).bind (fun q3 => ((FX5_doClause n q3 (u33.2.1 + (1 : Int32)) u33.2.2.2).bind (fun q5 => (if q5.1 < 0 then ((FX5_numbersOf q3).bind (fun q7 => some (Sum.inl (u33.1, (u33.2.1 + ((1 : Int32) + q7)), (u33.2.2.1 + (1 : Int32)), q5.2)))) else ((FX5_numbersOf q3).bind (fun q9 => some (Sum.inl ((u33.1 + (1 : Int32)), (u33.2.1 + ((1 : Int32) + q9)), (u33.2.2.1 + (1 : Int32)), q5.2))))))))))
def FX5_text (n : Nat) (h : aw_H) : Option (Int32 × aw_H) :=
  ((FX2_findFault n h).bind (fun q1 => (if q1.1 = (-1 : Int32) then aw_loop (BX5_text_33 n) n ((0 : Int32), (0 : Int32), (0 : Int32), (aw_sI q1.2 54 1 (0 : Int32))) else some (((-100 : Int32) - q1.1), (aw_sI q1.2 54 1 (0 : Int32))))))
set_option maxRecDepth 100000 in
set_option maxHeartbeats 4000000 in
theorem ctX5_text (n : Nat) (h : aw_H) (y : Int32 × aw_H) (hF : FX5_text n h = some y) : Ct 8 0 0 yX5_text cX5_text 6 (some .int) [.ref 0] wL wR h (aw_D (some (.int y.1)) y.2) := by
  refine Ct.of (ls0 := [.ref 0, .retAddr 0, .retAddr 0, .retAddr 0, .retAddr 0, .retAddr 0]) (by decide +kernel) rfl rfl (fun X C E hnm => ?_)
  have C : aw_C X RX5 cX5_text 6 8 0 0 := C
  unfold FX5_text at hF
  refine aw_aload_0 C dX5_text_0 ?_
  refine aw_getR C dX5_text_1 fX5_34 gX5_4 rfl rfl ?_
  obtain ⟨q1, e2, hF⟩ := bw_bind hF
  refine bw_V0i C dX5_text_4 kyX2_findFault lX5_233 kiX2_findFault kvX2_findFault (aw_rv C rfl rfl) rfl rfl (ctX2_findFault n h q1 e2) ?_
  refine aw_istore_1 C dX5_text_7 rfl rfl ?_
  refine aw_aload_0 C dX5_text_8 ?_
  refine aw_getR C dX5_text_9 fX5_34 gX5_4 rfl rfl ?_
  refine aw_iconst C dX5_text_12 li_0 ?_
  refine aw_putI C dX5_text_13 fX5_227 gX2_1 rfl ?_
  refine aw_iload_1 C dX5_text_16 ?_
  refine aw_iconst C dX5_text_17 li_m1 ?_
  refine bw_icmp_eq (tgt := 26) C dX5_text_18 (by decide) hF (fun hF => ?_) (fun hF => ?_)
  · refine aw_iconst C dX5_text_26 li_0 ?_
    refine aw_istore_2 C dX5_text_27 rfl rfl ?_
    refine aw_iconst C dX5_text_28 li_0 ?_
    refine aw_istore_3 C dX5_text_29 rfl rfl ?_
    refine aw_iconst C dX5_text_30 li_0 ?_
    refine aw_istore_4 C dX5_text_31 rfl rfl ?_
    refine aw_weak (show aw_le [.ref 0, .retAddr 0, .int (0 : Int32), .int (0 : Int32), .int (0 : Int32), .retAddr 0] [.ref 0, .int q1.1, .int (0 : Int32), .int (0 : Int32), .int (0 : Int32), .retAddr 0] from ⟨Or.inr rfl, Or.inl rfl, Or.inr rfl, Or.inr rfl, Or.inr rfl, Or.inr rfl, trivial⟩) ?_
    refine aw_loop_rule (fun u33 : (Int32 × Int32 × Int32 × aw_H) => AW X 6 33 [.ref 0, .retAddr 0, .int u33.1, .int u33.2.1, .int u33.2.2.1, .retAddr 0] [] wL wR u33.2.2.2 0 0) (fun q => q = y) (fun u33 y33 hF hK => ?_) n ((0 : Int32), (0 : Int32), (0 : Int32), (aw_sI q1.2 54 1 (0 : Int32))) _ hF rfl
    unfold BX5_text_33 at hF
    refine aw_iload_4 C dX5_text_33 ?_
    refine aw_aload_0 C dX5_text_35 ?_
    refine aw_getR C dX5_text_36 fX5_34 gX5_4 rfl rfl ?_
    refine aw_getI C dX5_text_39 fX5_236 gX2_7 rfl ?_
    refine bw_icmp_ge (tgt := 86) C dX5_text_42 (by decide) hF (fun hF => ?_) (fun hF => ?_)
    · refine aw_iload_2 C dX5_text_86 ?_
      obtain rfl := Option.some.inj hF
      have hK : _ = y := hK
      subst hK
      exact aw_iret C E dX5_text_87 rfl rfl (bw_ret rfl)
    · refine aw_aload_0 C dX5_text_45 ?_
      refine aw_getR C dX5_text_46 fX5_34 gX5_4 rfl rfl ?_
      refine aw_iload_3 C dX5_text_49 ?_
      obtain ⟨q3, e4, hF⟩ := bw_bind hF
      refine bw_V1i C dX5_text_50 kyX2_saidAt lX5_239 kiX2_saidAt kvX2_saidAt (aw_rv C rfl rfl) rfl rfl (ctX2_saidAt u33.2.1 u33.2.2.2 q3 e4) ?_
      refine aw_istore_5 C dX5_text_53 rfl rfl ?_
      refine aw_aload_0 C dX5_text_55 ?_
      refine aw_iload_5 C dX5_text_56 ?_
      refine aw_iload_3 C dX5_text_58 ?_
      refine aw_iconst C dX5_text_59 li_1 ?_
      refine aw_iadd C dX5_text_60 ?_
      obtain ⟨q5, e6, hF⟩ := bw_bind hF
      refine bw_V2i C dX5_text_61 kyX5_doClause lX5_242 kiX5_doClause kvX5_doClause (aw_rv C rfl rfl) rfl rfl (ctX5_doClause n q3 (u33.2.1 + (1 : Int32)) u33.2.2.2 q5 e6) ?_
      refine bw_if_lt (tgt := 70) C dX5_text_64 (by decide) hF (fun hF => ?_) (fun hF => ?_)
      · refine aw_iload_3 C dX5_text_70 ?_
        refine aw_iconst C dX5_text_71 li_1 ?_
        refine aw_iload_5 C dX5_text_72 ?_
        obtain ⟨q7, e8, hF⟩ := bw_bind hF
        refine bw_S1i C dX5_text_74 kyX5_numbersOf lX5_245 ksX5_numbersOf rfl rfl (ctX5_numbersOf q3 q5.2 q7 e8) ?_
        refine aw_iadd C dX5_text_77 ?_
        refine aw_iadd C dX5_text_78 ?_
        refine aw_istore_3 C dX5_text_79 rfl rfl ?_
        refine aw_iinc_4 C dX5_text_80 li_1 rfl rfl ?_
        refine aw_goto (tgt := 33) C dX5_text_83 (by decide) ?_
        cases hF
        exact aw_weak (show aw_le [.ref 0, .retAddr 0, .int u33.1, .int (u33.2.1 + ((1 : Int32) + q7)), .int (u33.2.2.1 + (1 : Int32)), .retAddr 0] [.ref 0, .retAddr 0, .int u33.1, .int (u33.2.1 + ((1 : Int32) + q7)), .int (u33.2.2.1 + (1 : Int32)), .int q3] from ⟨Or.inr rfl, Or.inr rfl, Or.inr rfl, Or.inr rfl, Or.inr rfl, Or.inl rfl, trivial⟩) hK
      · refine aw_iinc_2 C dX5_text_67 li_1 rfl rfl ?_
        refine aw_iload_3 C dX5_text_70 ?_
        refine aw_iconst C dX5_text_71 li_1 ?_
        refine aw_iload_5 C dX5_text_72 ?_
        obtain ⟨q9, e10, hF⟩ := bw_bind hF
        refine bw_S1i C dX5_text_74 kyX5_numbersOf lX5_245 ksX5_numbersOf rfl rfl (ctX5_numbersOf q3 q5.2 q9 e10) ?_
        refine aw_iadd C dX5_text_77 ?_
        refine aw_iadd C dX5_text_78 ?_
        refine aw_istore_3 C dX5_text_79 rfl rfl ?_
        refine aw_iinc_4 C dX5_text_80 li_1 rfl rfl ?_
        refine aw_goto (tgt := 33) C dX5_text_83 (by decide) ?_
        cases hF
        exact aw_weak (show aw_le [.ref 0, .retAddr 0, .int (u33.1 + (1 : Int32)), .int (u33.2.1 + ((1 : Int32) + q9)), .int (u33.2.2.1 + (1 : Int32)), .retAddr 0] [.ref 0, .retAddr 0, .int (u33.1 + (1 : Int32)), .int (u33.2.1 + ((1 : Int32) + q9)), .int (u33.2.2.1 + (1 : Int32)), .int q3] from ⟨Or.inr rfl, Or.inr rfl, Or.inr rfl, Or.inr rfl, Or.inr rfl, Or.inl rfl, trivial⟩) hK
  · refine aw_bipush C dX5_text_21 lb_m100 ?_
    refine aw_iload_1 C dX5_text_23 ?_
    refine aw_isub C dX5_text_24 ?_
    obtain rfl := Option.some.inj hF
    exact aw_iret C E dX5_text_25 rfl rfl (bw_ret rfl)
def FX5_image (n : Nat) (h : aw_H) : Option (Int32 × aw_H) :=
  ((FX4_become_b n h).bind (fun q1 => some (((aw_sI q1 0 2 (1 : Int32)).1 1 1), (aw_sI q1 0 2 (1 : Int32)))))
set_option maxRecDepth 100000 in
set_option maxHeartbeats 4000000 in
theorem ctX5_image (n : Nat) (h : aw_H) (y : Int32 × aw_H) (hF : FX5_image n h = some y) : Ct 3 0 0 yX5_image cX5_image 1 (some .int) [.ref 0] wL wR h (aw_D (some (.int y.1)) y.2) := by
  refine Ct.of (ls0 := [.ref 0]) (by decide +kernel) rfl rfl (fun X C E hnm => ?_)
  have C : aw_C X RX5 cX5_image 1 3 0 0 := C
  unfold FX5_image at hF
  refine aw_aload_0 C dX5_image_0 ?_
  refine aw_getR C dX5_image_1 fX5_18 gX5_1 rfl rfl ?_
  refine aw_aload_0 C dX5_image_4 ?_
  refine aw_getR C dX5_image_5 fX5_12 gX5_0 rfl rfl ?_
  obtain ⟨q1, e2, hF⟩ := bw_bind hF
  refine bw_V1v C dX5_image_8 kyX4_become lX5_248 kiX4_become kvX4_become (aw_rv C rfl rfl) rfl rfl (ctX4_become_b n h q1 e2) ?_
  refine aw_aload_0 C dX5_image_11 ?_
  refine aw_iconst C dX5_image_12 li_1 ?_
  refine aw_putZ (Or.inr rfl) C dX5_image_13 fX5_21 gX5_2 rfl ?_
  refine aw_aload_0 C dX5_image_16 ?_
  refine aw_getR C dX5_image_17 fX5_12 gX5_0 rfl rfl ?_
  refine aw_getI C dX5_image_20 fX5_65 gX4_1 rfl ?_
  obtain rfl := Option.some.inj hF
  exact aw_iret C E dX5_image_23 rfl rfl (bw_ret rfl)
def FX5_back (n : Nat) (h : aw_H) : Option (Int32 × aw_H) :=
  (if (h.1 0 2) = 0 then some ((-3 : Int32), h) else ((FX4_become_a n h).bind (fun q1 => some ((q1.1 1 1), q1))))
set_option maxRecDepth 100000 in
set_option maxHeartbeats 4000000 in
theorem ctX5_back (n : Nat) (h : aw_H) (y : Int32 × aw_H) (hF : FX5_back n h = some y) : Ct 3 0 0 yX5_back cX5_back 1 (some .int) [.ref 0] wL wR h (aw_D (some (.int y.1)) y.2) := by
  refine Ct.of (ls0 := [.ref 0]) (by decide +kernel) rfl rfl (fun X C E hnm => ?_)
  have C : aw_C X RX5 cX5_back 1 3 0 0 := C
  unfold FX5_back at hF
  refine aw_aload_0 C dX5_back_0 ?_
  refine aw_getZ C dX5_back_1 fX5_21 gX5_2 rfl ?_
  refine bw_if_ne (tgt := 10) C dX5_back_4 (by decide) hF (fun hF => ?_) (fun hF => ?_)
  · refine aw_aload_0 C dX5_back_10 ?_
    refine aw_getR C dX5_back_11 fX5_12 gX5_0 rfl rfl ?_
    refine aw_aload_0 C dX5_back_14 ?_
    refine aw_getR C dX5_back_15 fX5_18 gX5_1 rfl rfl ?_
    obtain ⟨q1, e2, hF⟩ := bw_bind hF
    refine bw_V1v C dX5_back_18 kyX4_become lX5_248 kiX4_become kvX4_become (aw_rv C rfl rfl) rfl rfl (ctX4_become_a n h q1 e2) ?_
    refine aw_aload_0 C dX5_back_21 ?_
    refine aw_getR C dX5_back_22 fX5_12 gX5_0 rfl rfl ?_
    refine aw_getI C dX5_back_25 fX5_65 gX4_1 rfl ?_
    obtain rfl := Option.some.inj hF
    exact aw_iret C E dX5_back_28 rfl rfl (bw_ret rfl)
  · refine aw_bipush C dX5_back_7 lb_m3 ?_
    obtain rfl := Option.some.inj hF
    exact aw_iret C E dX5_back_9 rfl rfl (bw_ret rfl)
def FX5_partFrom (n : Nat) (a1 : Nat) (a2 : Int32) (h : aw_H) : Option (Int32 × aw_H) :=
  (if aw_inb a2 40 = true then (if aw_inb (a2 + (1 : Int32)) 40 = true then (if aw_inb (a2 + (2 : Int32)) 40 = true then (if aw_inb (a2 + (3 : Int32)) 40 = true then ((FX5_part n (((h.2 (a1 + 1) (a2).toNatClampNeg)).toInt32) (((h.2 (a1 + 1) ((a2 + (1 : Int32))).toNatClampNeg)).toInt32) (((h.2 (a1 + 1) ((a2 + (2 : Int32))).toNatClampNeg)).toInt32) (((h.2 (a1 + 1) ((a2 + (3 : Int32))).toNatClampNeg)).toInt32) h).bind (fun q5 => some (q5.1, q5.2))) else none) else none) else none) else none)
set_option maxRecDepth 100000 in
set_option maxHeartbeats 4000000 in
theorem ctX5_partFrom (n : Nat) (a1 : Nat) (a2 : Int32) (h : aw_H) (f1 : aw_isS a1 = true) (y : Int32 × aw_H) (hF : FX5_partFrom n a1 a2 h = some y) : Ct 5 0 0 yX5_partFrom cX5_partFrom 3 (some .int) [.ref 0, .ref a1, .int a2] wL wR h (aw_D (some (.int y.1)) y.2) := by
  refine Ct.of (ls0 := [.ref 0, .ref a1, .int a2]) (by decide +kernel) rfl rfl (fun X C E hnm => ?_)
  have C : aw_C X RX5 cX5_partFrom 3 5 0 0 := C
  unfold FX5_partFrom at hF
  refine aw_aload_0 C dX5_partFrom_0 ?_
  refine aw_aload_1 C dX5_partFrom_1 ?_
  refine aw_getR C dX5_partFrom_2 fX5_268 gX1_0 (aw_s1 f1) (aw_sr0 f1) ?_
  refine aw_iload_2 C dX5_partFrom_5 ?_
  obtain ⟨s1, hF⟩ := bw_side hF
  refine aw_lald C dX5_partFrom_6 (aw_sa0 f1) (aw_ix s1) ?_
  refine aw_l2i C dX5_partFrom_7 ?_
  refine aw_aload_1 C dX5_partFrom_8 ?_
  refine aw_getR C dX5_partFrom_9 fX5_268 gX1_0 (aw_s1 f1) (aw_sr0 f1) ?_
  refine aw_iload_2 C dX5_partFrom_12 ?_
  refine aw_iconst C dX5_partFrom_13 li_1 ?_
  refine aw_iadd C dX5_partFrom_14 ?_
  obtain ⟨s2, hF⟩ := bw_side hF
  refine aw_lald C dX5_partFrom_15 (aw_sa0 f1) (aw_ix s2) ?_
  refine aw_l2i C dX5_partFrom_16 ?_
  refine aw_aload_1 C dX5_partFrom_17 ?_
  refine aw_getR C dX5_partFrom_18 fX5_268 gX1_0 (aw_s1 f1) (aw_sr0 f1) ?_
  refine aw_iload_2 C dX5_partFrom_21 ?_
  refine aw_iconst C dX5_partFrom_22 li_2 ?_
  refine aw_iadd C dX5_partFrom_23 ?_
  obtain ⟨s3, hF⟩ := bw_side hF
  refine aw_lald C dX5_partFrom_24 (aw_sa0 f1) (aw_ix s3) ?_
  refine aw_l2i C dX5_partFrom_25 ?_
  refine aw_aload_1 C dX5_partFrom_26 ?_
  refine aw_getR C dX5_partFrom_27 fX5_268 gX1_0 (aw_s1 f1) (aw_sr0 f1) ?_
  refine aw_iload_2 C dX5_partFrom_30 ?_
  refine aw_iconst C dX5_partFrom_31 li_3 ?_
  refine aw_iadd C dX5_partFrom_32 ?_
  obtain ⟨s4, hF⟩ := bw_side hF
  refine aw_lald C dX5_partFrom_33 (aw_sa0 f1) (aw_ix s4) ?_
  refine aw_l2i C dX5_partFrom_34 ?_
  obtain ⟨q5, e6, hF⟩ := bw_bind hF
  refine bw_V4i C dX5_partFrom_35 kyX5_part lX5_297 kiX5_part kvX5_part (aw_rv C rfl rfl) rfl rfl (ctX5_part n (((h.2 (a1 + 1) (a2).toNatClampNeg)).toInt32) (((h.2 (a1 + 1) ((a2 + (1 : Int32))).toNatClampNeg)).toInt32) (((h.2 (a1 + 1) ((a2 + (2 : Int32))).toNatClampNeg)).toInt32) (((h.2 (a1 + 1) ((a2 + (3 : Int32))).toNatClampNeg)).toInt32) h q5 e6) ?_
  obtain rfl := Option.some.inj hF
  exact aw_iret C E dX5_partFrom_38 rfl rfl (bw_ret rfl)
def BX5_load_67 (n : Nat) (a1 : Int32) (a3 : Int32) (a4 : Int32) (u67 : (Int32 × Int32 × aw_H)) : Option ((Int32 × Int32 × aw_H) ⊕ (Int32 × aw_H)) :=
  (if a4 ≤ u67.2.1 then some (Sum.inr (u67.1, u67.2.2)) else (if (FX1_holds (63 + 2 * (a1).toNatClampNeg) ((a3).toInt64 + (((4 : Int32) * u67.2.1)).toInt64) (4 : Int32) u67.2.2) = 0 then some (Sum.inr ((-12 : Int32), u67.2.2)) else ((FX5_partFrom n (63 + 2 * (a1).toNatClampNeg) (a3 + ((4 : Int32) * u67.2.1)) u67.2.2).bind (fun q2 => (if q2.1 < 0 then some (Sum.inl (u67.1, (u67.2.1 + (1 : Int32)), q2.2)) else some (Sum.inl ((u67.1 + (1 : Int32)), (u67.2.1 + (1 : Int32)), q2.2)))))))
def FX5_load (n : Nat) (a1 : Int32) (a2 : Int32) (a3 : Int32) (a4 : Int32) (h : aw_H) : Option (Int32 × aw_H) :=
  (if (FX5_isSheet a1) = 0 then some ((-2 : Int32), h) else (if (FX5_within a2 (0 : Int32) (1 : Int32)) = 0 then some ((-2 : Int32), h) else (if (FX5_within a4 (0 : Int32) (6 : Int32)) = 0 then some ((-2 : Int32), h) else (if aw_inb a1 4 = true then (if (FX1_isMissing (63 + 2 * (a1).toNatClampNeg) h) = 0 then (if (h.1 (63 + 2 * (a1).toNatClampNeg) 1) = a2 then aw_loop (BX5_load_67 n a1 a3 a4) n ((0 : Int32), (0 : Int32), h) else some ((-13 : Int32), h)) else some ((-11 : Int32), h)) else none))))
set_option maxRecDepth 100000 in
set_option maxHeartbeats 4000000 in
theorem ctX5_load (n : Nat) (a1 : Int32) (a2 : Int32) (a3 : Int32) (a4 : Int32) (h : aw_H) (y : Int32 × aw_H) (hF : FX5_load n a1 a2 a3 a4 h = some y) : Ct 6 0 0 yX5_load cX5_load 8 (some .int) [.ref 0, .int a1, .int a2, .int a3, .int a4] wL wR h (aw_D (some (.int y.1)) y.2) := by
  refine Ct.of (ls0 := [.ref 0, .int a1, .int a2, .int a3, .int a4, .retAddr 0, .retAddr 0, .retAddr 0]) (by decide +kernel) rfl rfl (fun X C E hnm => ?_)
  have C : aw_C X RX5 cX5_load 8 6 0 0 := C
  unfold FX5_load at hF
  refine aw_iload_1 C dX5_load_0 ?_
  refine bw_S1i C dX5_load_1 kyX5_isSheet lX5_168 ksX5_isSheet rfl rfl (ctX5_isSheet a1 h _ rfl) ?_
  refine bw_if_eq (tgt := 27) C dX5_load_4 (by decide) hF (fun hF => ?_) (fun hF => ?_)
  · refine aw_bipush C dX5_load_27 lb_m2 ?_
    obtain rfl := Option.some.inj hF
    exact aw_iret C E dX5_load_29 rfl rfl (bw_ret rfl)
  · refine aw_iload_2 C dX5_load_7 ?_
    refine aw_iconst C dX5_load_8 li_0 ?_
    refine aw_iconst C dX5_load_9 li_1 ?_
    refine bw_S3i C dX5_load_10 kyX5_within lX5_91 ksX5_within rfl rfl (ctX5_within a2 (0 : Int32) (1 : Int32) h _ rfl) ?_
    refine bw_if_eq (tgt := 27) C dX5_load_13 (by decide) hF (fun hF => ?_) (fun hF => ?_)
    · refine aw_bipush C dX5_load_27 lb_m2 ?_
      obtain rfl := Option.some.inj hF
      exact aw_iret C E dX5_load_29 rfl rfl (bw_ret rfl)
    · refine aw_iload_4 C dX5_load_16 ?_
      refine aw_iconst C dX5_load_18 li_0 ?_
      refine aw_bipush C dX5_load_19 lb_6 ?_
      refine bw_S3i C dX5_load_21 kyX5_within lX5_91 ksX5_within rfl rfl (ctX5_within a4 (0 : Int32) (6 : Int32) h _ rfl) ?_
      refine bw_if_ne (tgt := 30) C dX5_load_24 (by decide) hF (fun hF => ?_) (fun hF => ?_)
      · refine aw_aload_0 C dX5_load_30 ?_
        refine aw_getR C dX5_load_31 fX5_27 gX5_3 rfl rfl ?_
        refine aw_iload_1 C dX5_load_34 ?_
        obtain ⟨s1, hF⟩ := bw_side hF
        refine aw_aald (t := 1) C dX5_load_35 (by decide) rfl (aw_ix s1) (aw_sh s1).1 ?_
        refine aw_astore_5 C dX5_load_36 rfl rfl ?_
        refine aw_aload_5 C dX5_load_38 ?_
        refine bw_V0i C dX5_load_40 kyX1_isMissing lX5_175 kiX1_isMissing kvX1_isMissing (aw_rv C (aw_s1 (aw_sh s1).2) rfl) rfl rfl (ctX1_isMissing (63 + 2 * (a1).toNatClampNeg) h (aw_sh s1).2 _ rfl) ?_
        refine bw_if_eq (tgt := 49) C dX5_load_43 (by decide) hF (fun hF => ?_) (fun hF => ?_)
        · refine aw_aload_5 C dX5_load_49 ?_
          refine aw_getI C dX5_load_51 fX5_252 gX1_1 (aw_s1 (aw_sh s1).2) ?_
          refine aw_iload_2 C dX5_load_54 ?_
          refine bw_icmp_eq (tgt := 61) C dX5_load_55 (by decide) hF (fun hF => ?_) (fun hF => ?_)
          · refine aw_iconst C dX5_load_61 li_0 ?_
            refine aw_istore_6 C dX5_load_62 rfl rfl ?_
            refine aw_iconst C dX5_load_64 li_0 ?_
            refine aw_istore_7 C dX5_load_65 rfl rfl ?_
            refine aw_weak (show aw_le [.ref 0, .retAddr 0, .retAddr 0, .int a3, .int a4, .ref (63 + 2 * (a1).toNatClampNeg), .int (0 : Int32), .int (0 : Int32)] [.ref 0, .int a1, .int a2, .int a3, .int a4, .ref (63 + 2 * (a1).toNatClampNeg), .int (0 : Int32), .int (0 : Int32)] from ⟨Or.inr rfl, Or.inl rfl, Or.inl rfl, Or.inr rfl, Or.inr rfl, Or.inr rfl, Or.inr rfl, Or.inr rfl, trivial⟩) ?_
            refine aw_loop_rule (fun u67 : (Int32 × Int32 × aw_H) => AW X 8 67 [.ref 0, .retAddr 0, .retAddr 0, .int a3, .int a4, .ref (63 + 2 * (a1).toNatClampNeg), .int u67.1, .int u67.2.1] [] wL wR u67.2.2 0 0) (fun q => q = y) (fun u67 y67 hF hK => ?_) n ((0 : Int32), (0 : Int32), h) _ hF rfl
            unfold BX5_load_67 at hF
            refine aw_iload_7 C dX5_load_67 ?_
            refine aw_iload_4 C dX5_load_69 ?_
            refine bw_icmp_ge (tgt := 118) C dX5_load_71 (by decide) hF (fun hF => ?_) (fun hF => ?_)
            · refine aw_iload_6 C dX5_load_118 ?_
              obtain rfl := Option.some.inj hF
              have hK : _ = y := hK
              subst hK
              exact aw_iret C E dX5_load_120 rfl rfl (bw_ret rfl)
            · refine aw_aload_5 C dX5_load_74 ?_
              refine aw_iload_3 C dX5_load_76 ?_
              refine aw_i2l C dX5_load_77 ?_
              refine aw_iconst C dX5_load_78 li_4 ?_
              refine aw_iload_7 C dX5_load_79 ?_
              refine aw_imul C dX5_load_81 ?_
              refine aw_i2l C dX5_load_82 ?_
              refine aw_ladd C dX5_load_83 ?_
              refine aw_iconst C dX5_load_84 li_4 ?_
              refine bw_V2i C dX5_load_85 kyX1_holds lX5_255 kiX1_holds kvX1_holds (aw_rv C (aw_s1 (aw_sh s1).2) rfl) rfl rfl (ctX1_holds (63 + 2 * (a1).toNatClampNeg) ((a3).toInt64 + (((4 : Int32) * u67.2.1)).toInt64) (4 : Int32) u67.2.2 (aw_sh s1).2 _ rfl) ?_
              refine bw_if_ne (tgt := 94) C dX5_load_88 (by decide) hF (fun hF => ?_) (fun hF => ?_)
              · refine aw_aload_0 C dX5_load_94 ?_
                refine aw_aload_5 C dX5_load_95 ?_
                refine aw_iload_3 C dX5_load_97 ?_
                refine aw_iconst C dX5_load_98 li_4 ?_
                refine aw_iload_7 C dX5_load_99 ?_
                refine aw_imul C dX5_load_101 ?_
                refine aw_iadd C dX5_load_102 ?_
                obtain ⟨q2, e3, hF⟩ := bw_bind hF
                refine bw_V2i C dX5_load_103 kyX5_partFrom lX5_259 kiX5_partFrom kvX5_partFrom (aw_rv C rfl rfl) rfl rfl (ctX5_partFrom n (63 + 2 * (a1).toNatClampNeg) (a3 + ((4 : Int32) * u67.2.1)) u67.2.2 (aw_sh s1).2 q2 e3) ?_
                refine bw_if_lt (tgt := 112) C dX5_load_106 (by decide) hF (fun hF => ?_) (fun hF => ?_)
                · refine aw_iinc_7 C dX5_load_112 li_1 rfl rfl ?_
                  refine aw_goto (tgt := 67) C dX5_load_115 (by decide) ?_
                  cases hF
                  exact hK
                · refine aw_iinc_6 C dX5_load_109 li_1 rfl rfl ?_
                  refine aw_iinc_7 C dX5_load_112 li_1 rfl rfl ?_
                  refine aw_goto (tgt := 67) C dX5_load_115 (by decide) ?_
                  cases hF
                  exact hK
              · refine aw_bipush C dX5_load_91 lb_m12 ?_
                obtain rfl := Option.some.inj hF
                have hK : _ = y := hK
                subst hK
                exact aw_iret C E dX5_load_93 rfl rfl (bw_ret rfl)
          · refine aw_bipush C dX5_load_58 lb_m13 ?_
            obtain rfl := Option.some.inj hF
            exact aw_iret C E dX5_load_60 rfl rfl (bw_ret rfl)
        · refine aw_bipush C dX5_load_46 lb_m11 ?_
          obtain rfl := Option.some.inj hF
          exact aw_iret C E dX5_load_48 rfl rfl (bw_ret rfl)
      · refine aw_bipush C dX5_load_27 lb_m2 ?_
        obtain rfl := Option.some.inj hF
        exact aw_iret C E dX5_load_29 rfl rfl (bw_ret rfl)
def FX5_count (n : Nat) (a1 : Int32) (h : aw_H) : Option (Int32) :=
  (if a1 = (0 : Int32) then some (h.1 1 1) else (if a1 = (1 : Int32) then some (h.1 1 3) else (if a1 = (2 : Int32) then some (h.1 54 1) else (if a1 = (3 : Int32) then ((FX4_pairsOfAll n h).bind (fun q4 => some q4)) else (if a1 = (4 : Int32) then ((FX4_jams n h).bind (fun q7 => some q7)) else (if a1 = (5 : Int32) then some (h.1 1 2) else some (-2 : Int32)))))))
set_option maxRecDepth 100000 in
set_option maxHeartbeats 4000000 in
theorem ctX5_count (n : Nat) (a1 : Int32) (h : aw_H) (y : Int32) (hF : FX5_count n a1 h = some y) : Ct 3 0 0 yX5_count cX5_count 2 (some .int) [.ref 0, .int a1] wL wR h (aw_D (some (.int y)) h) := by
  refine Ct.of (ls0 := [.ref 0, .int a1]) (by decide +kernel) rfl rfl (fun X C E hnm => ?_)
  have C : aw_C X RX5 cX5_count 2 3 0 0 := C
  unfold FX5_count at hF
  refine aw_iload_1 C dX5_count_0 ?_
  rcases Decidable.em (a1 = (0 : Int32)) with c1 | c1
  · rw [if_pos c1] at hF
    refine aw_tabIn (off := 39) (tgt := 40) C dX5_count_1 (by rw [c1]; decide) (by rw [c1]; decide) (by rw [c1]; rfl) (by decide) ?_
    refine aw_aload_0 C dX5_count_40 ?_
    refine aw_getR C dX5_count_41 fX5_12 gX5_0 rfl rfl ?_
    refine aw_getI C dX5_count_44 fX5_65 gX4_1 rfl ?_
    obtain rfl := Option.some.inj hF
    exact aw_iret C E dX5_count_47 rfl rfl (bw_ret rfl)
  rw [if_neg c1] at hF
  rcases Decidable.em (a1 = (1 : Int32)) with c2 | c2
  · rw [if_pos c2] at hF
    refine aw_tabIn (off := 47) (tgt := 48) C dX5_count_1 (by rw [c2]; decide) (by rw [c2]; decide) (by rw [c2]; rfl) (by decide) ?_
    refine aw_aload_0 C dX5_count_48 ?_
    refine aw_getR C dX5_count_49 fX5_12 gX5_0 rfl rfl ?_
    refine aw_getI C dX5_count_52 fX5_141 gX4_3 rfl ?_
    obtain rfl := Option.some.inj hF
    exact aw_iret C E dX5_count_55 rfl rfl (bw_ret rfl)
  rw [if_neg c2] at hF
  rcases Decidable.em (a1 = (2 : Int32)) with c3 | c3
  · rw [if_pos c3] at hF
    refine aw_tabIn (off := 55) (tgt := 56) C dX5_count_1 (by rw [c3]; decide) (by rw [c3]; decide) (by rw [c3]; rfl) (by decide) ?_
    refine aw_aload_0 C dX5_count_56 ?_
    refine aw_getR C dX5_count_57 fX5_34 gX5_4 rfl rfl ?_
    refine aw_getI C dX5_count_60 fX5_227 gX2_1 rfl ?_
    obtain rfl := Option.some.inj hF
    exact aw_iret C E dX5_count_63 rfl rfl (bw_ret rfl)
  rw [if_neg c3] at hF
  rcases Decidable.em (a1 = (3 : Int32)) with c6 | c6
  · rw [if_pos c6] at hF
    refine aw_tabIn (off := 63) (tgt := 64) C dX5_count_1 (by rw [c6]; decide) (by rw [c6]; decide) (by rw [c6]; rfl) (by decide) ?_
    refine aw_aload_0 C dX5_count_64 ?_
    refine aw_getR C dX5_count_65 fX5_12 gX5_0 rfl rfl ?_
    obtain ⟨q4, e5, hF⟩ := bw_bind hF
    refine bw_V0i C dX5_count_68 kyX4_pairsOfAll lX5_262 kiX4_pairsOfAll kvX4_pairsOfAll (aw_rv C rfl rfl) rfl rfl (ctX4_pairsOfAll n h q4 e5) ?_
    obtain rfl := Option.some.inj hF
    exact aw_iret C E dX5_count_71 rfl rfl (bw_ret rfl)
  rw [if_neg c6] at hF
  rcases Decidable.em (a1 = (4 : Int32)) with c9 | c9
  · rw [if_pos c9] at hF
    refine aw_tabIn (off := 71) (tgt := 72) C dX5_count_1 (by rw [c9]; decide) (by rw [c9]; decide) (by rw [c9]; rfl) (by decide) ?_
    refine aw_aload_0 C dX5_count_72 ?_
    refine aw_getR C dX5_count_73 fX5_12 gX5_0 rfl rfl ?_
    obtain ⟨q7, e8, hF⟩ := bw_bind hF
    refine bw_V0i C dX5_count_76 kyX4_jams lX5_265 kiX4_jams kvX4_jams (aw_rv C rfl rfl) rfl rfl (ctX4_jams n h q7 e8) ?_
    obtain rfl := Option.some.inj hF
    exact aw_iret C E dX5_count_79 rfl rfl (bw_ret rfl)
  rw [if_neg c9] at hF
  rcases Decidable.em (a1 = (5 : Int32)) with c10 | c10
  · rw [if_pos c10] at hF
    refine aw_tabIn (off := 79) (tgt := 80) C dX5_count_1 (by rw [c10]; decide) (by rw [c10]; decide) (by rw [c10]; rfl) (by decide) ?_
    refine aw_aload_0 C dX5_count_80 ?_
    refine aw_getR C dX5_count_81 fX5_12 gX5_0 rfl rfl ?_
    refine aw_getI C dX5_count_84 fX5_81 gX4_2 rfl ?_
    obtain rfl := Option.some.inj hF
    exact aw_iret C E dX5_count_87 rfl rfl (bw_ret rfl)
  rw [if_neg c10] at hF
  refine aw_tabOut (tgt := 88) C dX5_count_1 (by
      have zc1 := bw_lit (z := 0) (by decide) c1
      have zc2 := bw_lit (z := 1) (by decide) c2
      have zc3 := bw_lit (z := 2) (by decide) c3
      have zc6 := bw_lit (z := 3) (by decide) c6
      have zc9 := bw_lit (z := 4) (by decide) c9
      have zc10 := bw_lit (z := 5) (by decide) c10
      omega) (by decide) ?_
  refine aw_bipush C dX5_count_88 lb_m2 ?_
  obtain rfl := Option.some.inj hF
  exact aw_iret C E dX5_count_90 rfl rfl (bw_ret rfl)
def FX5_sheet (n : Nat) (a1 : Int32) (a2 : Int32) (a3 : Int32) (h : aw_H) : Option (Int32 × aw_H) :=
  (if (FX5_isSheet a1) = 0 then some ((-2 : Int32), h) else (if (FX5_within a2 (-1 : Int32) (1 : Int32)) = 0 then some ((-2 : Int32), h) else (if a2 = (-1 : Int32) then (if aw_inb a1 4 = true then ((FX1_begin n (63 + 2 * (a1).toNatClampNeg) (-1 : Int32) (0 : Int32) h).bind (fun q5 => some ((1 : Int32), q5))) else none) else (if a3 ≤ (40 : Int32) then (if 0 ≤ a3 then (if aw_inb a1 4 = true then ((FX1_begin n (63 + 2 * (a1).toNatClampNeg) a2 a3 h).bind (fun q2 => some ((1 : Int32), q2))) else none) else some ((-14 : Int32), h)) else some ((-2 : Int32), h)))))
set_option maxRecDepth 100000 in
set_option maxHeartbeats 4000000 in
theorem ctX5_sheet (n : Nat) (a1 : Int32) (a2 : Int32) (a3 : Int32) (h : aw_H) (y : Int32 × aw_H) (hF : FX5_sheet n a1 a2 a3 h = some y) : Ct 2 0 0 yX5_sheet cX5_sheet 4 (some .int) [.ref 0, .int a1, .int a2, .int a3] wL wR h (aw_D (some (.int y.1)) y.2) := by
  refine Ct.of (ls0 := [.ref 0, .int a1, .int a2, .int a3]) (by decide +kernel) rfl rfl (fun X C E hnm => ?_)
  have C : aw_C X RX5 cX5_sheet 4 2 0 0 := C
  unfold FX5_sheet at hF
  refine aw_iload_1 C dX5_sheet_0 ?_
  refine bw_S1i C dX5_sheet_1 kyX5_isSheet lX5_168 ksX5_isSheet rfl rfl (ctX5_isSheet a1 h _ rfl) ?_
  refine bw_if_eq (tgt := 16) C dX5_sheet_4 (by decide) hF (fun hF => ?_) (fun hF => ?_)
  · refine aw_bipush C dX5_sheet_16 lb_m2 ?_
    obtain rfl := Option.some.inj hF
    exact aw_iret C E dX5_sheet_18 rfl rfl (bw_ret rfl)
  · refine aw_iload_2 C dX5_sheet_7 ?_
    refine aw_iconst C dX5_sheet_8 li_m1 ?_
    refine aw_iconst C dX5_sheet_9 li_1 ?_
    refine bw_S3i C dX5_sheet_10 kyX5_within lX5_91 ksX5_within rfl rfl (ctX5_within a2 (-1 : Int32) (1 : Int32) h _ rfl) ?_
    refine bw_if_ne (tgt := 19) C dX5_sheet_13 (by decide) hF (fun hF => ?_) (fun hF => ?_)
    · refine aw_iload_2 C dX5_sheet_19 ?_
      refine aw_iconst C dX5_sheet_20 li_m1 ?_
      refine bw_icmp_ne (tgt := 37) C dX5_sheet_21 (by decide) hF (fun hF => ?_) (fun hF => ?_)
      · refine aw_iload_3 C dX5_sheet_37 ?_
        refine aw_bipush C dX5_sheet_38 lb_40 ?_
        refine bw_icmp_le (tgt := 46) C dX5_sheet_40 (by decide) hF (fun hF => ?_) (fun hF => ?_)
        · refine aw_iload_3 C dX5_sheet_46 ?_
          refine bw_if_ge (tgt := 53) C dX5_sheet_47 (by decide) hF (fun hF => ?_) (fun hF => ?_)
          · refine aw_aload_0 C dX5_sheet_53 ?_
            refine aw_getR C dX5_sheet_54 fX5_27 gX5_3 rfl rfl ?_
            refine aw_iload_1 C dX5_sheet_57 ?_
            obtain ⟨s1, hF⟩ := bw_side hF
            refine aw_aald (t := 1) C dX5_sheet_58 (by decide) rfl (aw_ix s1) (aw_sh s1).1 ?_
            refine aw_iload_2 C dX5_sheet_59 ?_
            refine aw_iload_3 C dX5_sheet_60 ?_
            obtain ⟨q2, e3, hF⟩ := bw_bind hF
            refine bw_V2v C dX5_sheet_61 kyX1_begin lX5_197 kiX1_begin kvX1_begin (aw_rv C (aw_s1 (aw_sh s1).2) rfl) rfl rfl (ctX1_begin n (63 + 2 * (a1).toNatClampNeg) a2 a3 h (aw_sh s1).2 q2 e3) ?_
            refine aw_iconst C dX5_sheet_64 li_1 ?_
            obtain rfl := Option.some.inj hF
            exact aw_iret C E dX5_sheet_65 rfl rfl (bw_ret rfl)
          · refine aw_bipush C dX5_sheet_50 lb_m14 ?_
            obtain rfl := Option.some.inj hF
            exact aw_iret C E dX5_sheet_52 rfl rfl (bw_ret rfl)
        · refine aw_bipush C dX5_sheet_43 lb_m2 ?_
          obtain rfl := Option.some.inj hF
          exact aw_iret C E dX5_sheet_45 rfl rfl (bw_ret rfl)
      · refine aw_aload_0 C dX5_sheet_24 ?_
        refine aw_getR C dX5_sheet_25 fX5_27 gX5_3 rfl rfl ?_
        refine aw_iload_1 C dX5_sheet_28 ?_
        obtain ⟨s4, hF⟩ := bw_side hF
        refine aw_aald (t := 1) C dX5_sheet_29 (by decide) rfl (aw_ix s4) (aw_sh s4).1 ?_
        refine aw_iconst C dX5_sheet_30 li_m1 ?_
        refine aw_iconst C dX5_sheet_31 li_0 ?_
        obtain ⟨q5, e6, hF⟩ := bw_bind hF
        refine bw_V2v C dX5_sheet_32 kyX1_begin lX5_197 kiX1_begin kvX1_begin (aw_rv C (aw_s1 (aw_sh s4).2) rfl) rfl rfl (ctX1_begin n (63 + 2 * (a1).toNatClampNeg) (-1 : Int32) (0 : Int32) h (aw_sh s4).2 q5 e6) ?_
        refine aw_iconst C dX5_sheet_35 li_1 ?_
        obtain rfl := Option.some.inj hF
        exact aw_iret C E dX5_sheet_36 rfl rfl (bw_ret rfl)
    · refine aw_bipush C dX5_sheet_16 lb_m2 ?_
      obtain rfl := Option.some.inj hF
      exact aw_iret C E dX5_sheet_18 rfl rfl (bw_ret rfl)
def FX5_put (a1 : Int32) (a2 : Int32) (a3 : Int64) (h : aw_H) : Option (Int32 × aw_H) :=
  (if (FX5_isSheet a1) = 0 then some ((-2 : Int32), h) else (if aw_inb a1 4 = true then (if (FX1_isMissing (63 + 2 * (a1).toNatClampNeg) h) = 0 then (if (FX1_holds (63 + 2 * (a1).toNatClampNeg) ((a2).toInt64) (1 : Int32) h) = 0 then some ((-12 : Int32), h) else ((FX1_write (63 + 2 * (a1).toNatClampNeg) a2 a3 h).bind (fun q2 => some ((1 : Int32), q2)))) else some ((-11 : Int32), h)) else none))
set_option maxRecDepth 100000 in
set_option maxHeartbeats 4000000 in
theorem ctX5_put (a1 : Int32) (a2 : Int32) (a3 : Int64) (h : aw_H) (y : Int32 × aw_H) (hF : FX5_put a1 a2 a3 h = some y) : Ct 2 0 0 yX5_put cX5_put 6 (some .int) [.ref 0, .int a1, .int a2, .long a3] wL wR h (aw_D (some (.int y.1)) y.2) := by
  refine Ct.of (ls0 := [.ref 0, .int a1, .int a2, .long a3, .retAddr 0, .retAddr 0]) (by decide +kernel) rfl rfl (fun X C E hnm => ?_)
  have C : aw_C X RX5 cX5_put 6 2 0 0 := C
  unfold FX5_put at hF
  refine aw_iload_1 C dX5_put_0 ?_
  refine bw_S1i C dX5_put_1 kyX5_isSheet lX5_168 ksX5_isSheet rfl rfl (ctX5_isSheet a1 h _ rfl) ?_
  refine bw_if_ne (tgt := 10) C dX5_put_4 (by decide) hF (fun hF => ?_) (fun hF => ?_)
  · refine aw_aload_0 C dX5_put_10 ?_
    refine aw_getR C dX5_put_11 fX5_27 gX5_3 rfl rfl ?_
    refine aw_iload_1 C dX5_put_14 ?_
    obtain ⟨s1, hF⟩ := bw_side hF
    refine aw_aald (t := 1) C dX5_put_15 (by decide) rfl (aw_ix s1) (aw_sh s1).1 ?_
    refine aw_astore_5 C dX5_put_16 rfl rfl ?_
    refine aw_aload_5 C dX5_put_18 ?_
    refine bw_V0i C dX5_put_20 kyX1_isMissing lX5_175 kiX1_isMissing kvX1_isMissing (aw_rv C (aw_s1 (aw_sh s1).2) rfl) rfl rfl (ctX1_isMissing (63 + 2 * (a1).toNatClampNeg) h (aw_sh s1).2 _ rfl) ?_
    refine bw_if_eq (tgt := 29) C dX5_put_23 (by decide) hF (fun hF => ?_) (fun hF => ?_)
    · refine aw_aload_5 C dX5_put_29 ?_
      refine aw_iload_2 C dX5_put_31 ?_
      refine aw_i2l C dX5_put_32 ?_
      refine aw_iconst C dX5_put_33 li_1 ?_
      refine bw_V2i C dX5_put_34 kyX1_holds lX5_255 kiX1_holds kvX1_holds (aw_rv C (aw_s1 (aw_sh s1).2) rfl) rfl rfl (ctX1_holds (63 + 2 * (a1).toNatClampNeg) ((a2).toInt64) (1 : Int32) h (aw_sh s1).2 _ rfl) ?_
      refine bw_if_ne (tgt := 43) C dX5_put_37 (by decide) hF (fun hF => ?_) (fun hF => ?_)
      · refine aw_aload_5 C dX5_put_43 ?_
        refine aw_iload_2 C dX5_put_45 ?_
        refine aw_lload_3 C dX5_put_46 ?_
        obtain ⟨q2, e3, hF⟩ := bw_bind hF
        refine bw_V2v C dX5_put_47 kyX1_write lX5_201 kiX1_write kvX1_write (aw_rv C (aw_s1 (aw_sh s1).2) rfl) rfl rfl (ctX1_write (63 + 2 * (a1).toNatClampNeg) a2 a3 h (aw_sh s1).2 q2 e3) ?_
        refine aw_iconst C dX5_put_50 li_1 ?_
        obtain rfl := Option.some.inj hF
        exact aw_iret C E dX5_put_51 rfl rfl (bw_ret rfl)
      · refine aw_bipush C dX5_put_40 lb_m12 ?_
        obtain rfl := Option.some.inj hF
        exact aw_iret C E dX5_put_42 rfl rfl (bw_ret rfl)
    · refine aw_bipush C dX5_put_26 lb_m11 ?_
      obtain rfl := Option.some.inj hF
      exact aw_iret C E dX5_put_28 rfl rfl (bw_ret rfl)
  · refine aw_bipush C dX5_put_7 lb_m2 ?_
    obtain rfl := Option.some.inj hF
    exact aw_iret C E dX5_put_9 rfl rfl (bw_ret rfl)
def FX5_item (a1 : Int32) (a2 : Int32) (h : aw_H) : Option (Int64) :=
  (if (FX5_isSheet a1) = 0 then some (-9223372036854775808 : Int64) else (if aw_inb a1 4 = true then (if (FX1_isMissing (63 + 2 * (a1).toNatClampNeg) h) = 0 then (if aw_inb a1 4 = true then (if (FX1_holds (63 + 2 * (a1).toNatClampNeg) ((a2).toInt64) (1 : Int32) h) = 0 then some (-9223372036854775808 : Int64) else (if aw_inb a1 4 = true then (if aw_inb a2 40 = true then some (h.2 ((63 + 2 * (a1).toNatClampNeg) + 1) (a2).toNatClampNeg) else none) else none)) else none) else some (-9223372036854775808 : Int64)) else none))
set_option maxRecDepth 100000 in
set_option maxHeartbeats 4000000 in
theorem ctX5_item (a1 : Int32) (a2 : Int32) (h : aw_H) (y : Int64) (hF : FX5_item a1 a2 h = some y) : Ct 2 0 0 yX5_item cX5_item 3 (some .long) [.ref 0, .int a1, .int a2] wL wR h (aw_D (some (.long y)) h) := by
  refine Ct.of (ls0 := [.ref 0, .int a1, .int a2]) (by decide +kernel) rfl rfl (fun X C E hnm => ?_)
  have C : aw_C X RX5 cX5_item 3 2 0 0 := C
  unfold FX5_item at hF
  refine aw_iload_1 C dX5_item_0 ?_
  refine bw_S1i C dX5_item_1 kyX5_isSheet lX5_168 ksX5_isSheet rfl rfl (ctX5_isSheet a1 h _ rfl) ?_
  refine bw_if_eq (tgt := 34) C dX5_item_4 (by decide) hF (fun hF => ?_) (fun hF => ?_)
  · refine aw_ldc2 C dX5_item_34 nX5_131 ?_
    obtain rfl := Option.some.inj hF
    exact aw_lret C E dX5_item_37 rfl rfl (bw_ret rfl)
  · refine aw_aload_0 C dX5_item_7 ?_
    refine aw_getR C dX5_item_8 fX5_27 gX5_3 rfl rfl ?_
    refine aw_iload_1 C dX5_item_11 ?_
    obtain ⟨s1, hF⟩ := bw_side hF
    refine aw_aald (t := 1) C dX5_item_12 (by decide) rfl (aw_ix s1) (aw_sh s1).1 ?_
    refine bw_V0i C dX5_item_13 kyX1_isMissing lX5_175 kiX1_isMissing kvX1_isMissing (aw_rv C (aw_s1 (aw_sh s1).2) rfl) rfl rfl (ctX1_isMissing (63 + 2 * (a1).toNatClampNeg) h (aw_sh s1).2 _ rfl) ?_
    refine bw_if_ne (tgt := 34) C dX5_item_16 (by decide) hF (fun hF => ?_) (fun hF => ?_)
    · refine aw_ldc2 C dX5_item_34 nX5_131 ?_
      obtain rfl := Option.some.inj hF
      exact aw_lret C E dX5_item_37 rfl rfl (bw_ret rfl)
    · refine aw_aload_0 C dX5_item_19 ?_
      refine aw_getR C dX5_item_20 fX5_27 gX5_3 rfl rfl ?_
      refine aw_iload_1 C dX5_item_23 ?_
      obtain ⟨s2, hF⟩ := bw_side hF
      refine aw_aald (t := 1) C dX5_item_24 (by decide) rfl (aw_ix s2) (aw_sh s2).1 ?_
      refine aw_iload_2 C dX5_item_25 ?_
      refine aw_i2l C dX5_item_26 ?_
      refine aw_iconst C dX5_item_27 li_1 ?_
      refine bw_V2i C dX5_item_28 kyX1_holds lX5_255 kiX1_holds kvX1_holds (aw_rv C (aw_s1 (aw_sh s2).2) rfl) rfl rfl (ctX1_holds (63 + 2 * (a1).toNatClampNeg) ((a2).toInt64) (1 : Int32) h (aw_sh s2).2 _ rfl) ?_
      refine bw_if_ne (tgt := 38) C dX5_item_31 (by decide) hF (fun hF => ?_) (fun hF => ?_)
      · refine aw_aload_0 C dX5_item_38 ?_
        refine aw_getR C dX5_item_39 fX5_27 gX5_3 rfl rfl ?_
        refine aw_iload_1 C dX5_item_42 ?_
        obtain ⟨s3, hF⟩ := bw_side hF
        refine aw_aald (t := 1) C dX5_item_43 (by decide) rfl (aw_ix s3) (aw_sh s3).1 ?_
        refine aw_getR C dX5_item_44 fX5_268 gX1_0 (aw_s1 (aw_sh s3).2) (aw_sr0 (aw_sh s3).2) ?_
        refine aw_iload_2 C dX5_item_47 ?_
        obtain ⟨s4, hF⟩ := bw_side hF
        refine aw_lald C dX5_item_48 (aw_sa0 (aw_sh s3).2) (aw_ix s4) ?_
        obtain rfl := Option.some.inj hF
        exact aw_lret C E dX5_item_49 rfl rfl (bw_ret rfl)
      · refine aw_ldc2 C dX5_item_34 nX5_131 ?_
        obtain rfl := Option.some.inj hF
        exact aw_lret C E dX5_item_37 rfl rfl (bw_ret rfl)
def FX5_copy (a1 : Int32) (a2 : Int32) (a3 : Int32) (a4 : Int32) (a5 : Int32) (h : aw_H) : Option (Int32 × aw_H) :=
  (if (FX5_isSheet a1) = 0 then some ((-2 : Int32), h) else (if (FX5_isSheet a3) = 0 then some ((-2 : Int32), h) else (if aw_inb a1 4 = true then (if aw_inb a3 4 = true then (if (FX1_isMissing (63 + 2 * (a1).toNatClampNeg) h) = 0 then (if (FX1_isMissing (63 + 2 * (a3).toNatClampNeg) h) = 0 then (if (h.1 (63 + 2 * (a1).toNatClampNeg) 1) = (h.1 (63 + 2 * (a3).toNatClampNeg) 1) then (if (FX1_holds (63 + 2 * (a1).toNatClampNeg) ((a2).toInt64) a5 h) = 0 then some ((-12 : Int32), h) else (if (FX1_holds (63 + 2 * (a3).toNatClampNeg) ((a4).toInt64) a5 h) = 0 then some ((-12 : Int32), h) else (if aw_cpok a2 a4 a5 40 40 = true then some (a5, (aw_cL h ((63 + 2 * (a1).toNatClampNeg) + 1) ((63 + 2 * (a3).toNatClampNeg) + 1) (a2).toNatClampNeg (a4).toNatClampNeg (a5).toNatClampNeg)) else none))) else some ((-13 : Int32), h)) else some ((-11 : Int32), h)) else some ((-11 : Int32), h)) else none) else none)))
set_option maxRecDepth 100000 in
set_option maxHeartbeats 4000000 in
theorem ctX5_copy (a1 : Int32) (a2 : Int32) (a3 : Int32) (a4 : Int32) (a5 : Int32) (h : aw_H) (y : Int32 × aw_H) (hF : FX5_copy a1 a2 a3 a4 a5 h = some y) : Ct 2 0 0 yX5_copy cX5_copy 8 (some .int) [.ref 0, .int a1, .int a2, .int a3, .int a4, .int a5] wL wR h (aw_D (some (.int y.1)) y.2) := by
  refine Ct.of (ls0 := [.ref 0, .int a1, .int a2, .int a3, .int a4, .int a5, .retAddr 0, .retAddr 0]) (by decide +kernel) rfl rfl (fun X C E hnm => ?_)
  have C : aw_C X RX5 cX5_copy 8 2 0 0 := C
  unfold FX5_copy at hF
  refine aw_iload_1 C dX5_copy_0 ?_
  refine bw_S1i C dX5_copy_1 kyX5_isSheet lX5_168 ksX5_isSheet rfl rfl (ctX5_isSheet a1 h _ rfl) ?_
  refine bw_if_eq (tgt := 14) C dX5_copy_4 (by decide) hF (fun hF => ?_) (fun hF => ?_)
  · refine aw_bipush C dX5_copy_14 lb_m2 ?_
    obtain rfl := Option.some.inj hF
    exact aw_iret C E dX5_copy_16 rfl rfl (bw_ret rfl)
  · refine aw_iload_3 C dX5_copy_7 ?_
    refine bw_S1i C dX5_copy_8 kyX5_isSheet lX5_168 ksX5_isSheet rfl rfl (ctX5_isSheet a3 h _ rfl) ?_
    refine bw_if_ne (tgt := 17) C dX5_copy_11 (by decide) hF (fun hF => ?_) (fun hF => ?_)
    · refine aw_aload_0 C dX5_copy_17 ?_
      refine aw_getR C dX5_copy_18 fX5_27 gX5_3 rfl rfl ?_
      refine aw_iload_1 C dX5_copy_21 ?_
      obtain ⟨s1, hF⟩ := bw_side hF
      refine aw_aald (t := 1) C dX5_copy_22 (by decide) rfl (aw_ix s1) (aw_sh s1).1 ?_
      refine aw_astore_6 C dX5_copy_23 rfl rfl ?_
      refine aw_aload_0 C dX5_copy_25 ?_
      refine aw_getR C dX5_copy_26 fX5_27 gX5_3 rfl rfl ?_
      refine aw_iload_3 C dX5_copy_29 ?_
      obtain ⟨s2, hF⟩ := bw_side hF
      refine aw_aald (t := 1) C dX5_copy_30 (by decide) rfl (aw_ix s2) (aw_sh s2).1 ?_
      refine aw_astore_7 C dX5_copy_31 rfl rfl ?_
      refine aw_aload_6 C dX5_copy_33 ?_
      refine bw_V0i C dX5_copy_35 kyX1_isMissing lX5_175 kiX1_isMissing kvX1_isMissing (aw_rv C (aw_s1 (aw_sh s1).2) rfl) rfl rfl (ctX1_isMissing (63 + 2 * (a1).toNatClampNeg) h (aw_sh s1).2 _ rfl) ?_
      refine bw_if_ne (tgt := 49) C dX5_copy_38 (by decide) hF (fun hF => ?_) (fun hF => ?_)
      · refine aw_bipush C dX5_copy_49 lb_m11 ?_
        obtain rfl := Option.some.inj hF
        exact aw_iret C E dX5_copy_51 rfl rfl (bw_ret rfl)
      · refine aw_aload_7 C dX5_copy_41 ?_
        refine bw_V0i C dX5_copy_43 kyX1_isMissing lX5_175 kiX1_isMissing kvX1_isMissing (aw_rv C (aw_s1 (aw_sh s2).2) rfl) rfl rfl (ctX1_isMissing (63 + 2 * (a3).toNatClampNeg) h (aw_sh s2).2 _ rfl) ?_
        refine bw_if_eq (tgt := 52) C dX5_copy_46 (by decide) hF (fun hF => ?_) (fun hF => ?_)
        · refine aw_aload_6 C dX5_copy_52 ?_
          refine aw_getI C dX5_copy_54 fX5_252 gX1_1 (aw_s1 (aw_sh s1).2) ?_
          refine aw_aload_7 C dX5_copy_57 ?_
          refine aw_getI C dX5_copy_59 fX5_252 gX1_1 (aw_s1 (aw_sh s2).2) ?_
          refine bw_icmp_eq (tgt := 68) C dX5_copy_62 (by decide) hF (fun hF => ?_) (fun hF => ?_)
          · refine aw_aload_6 C dX5_copy_68 ?_
            refine aw_iload_2 C dX5_copy_70 ?_
            refine aw_i2l C dX5_copy_71 ?_
            refine aw_iload_5 C dX5_copy_72 ?_
            refine bw_V2i C dX5_copy_74 kyX1_holds lX5_255 kiX1_holds kvX1_holds (aw_rv C (aw_s1 (aw_sh s1).2) rfl) rfl rfl (ctX1_holds (63 + 2 * (a1).toNatClampNeg) ((a2).toInt64) a5 h (aw_sh s1).2 _ rfl) ?_
            refine bw_if_eq (tgt := 93) C dX5_copy_77 (by decide) hF (fun hF => ?_) (fun hF => ?_)
            · refine aw_bipush C dX5_copy_93 lb_m12 ?_
              obtain rfl := Option.some.inj hF
              exact aw_iret C E dX5_copy_95 rfl rfl (bw_ret rfl)
            · refine aw_aload_7 C dX5_copy_80 ?_
              refine aw_iload_4 C dX5_copy_82 ?_
              refine aw_i2l C dX5_copy_84 ?_
              refine aw_iload_5 C dX5_copy_85 ?_
              refine bw_V2i C dX5_copy_87 kyX1_holds lX5_255 kiX1_holds kvX1_holds (aw_rv C (aw_s1 (aw_sh s2).2) rfl) rfl rfl (ctX1_holds (63 + 2 * (a3).toNatClampNeg) ((a4).toInt64) a5 h (aw_sh s2).2 _ rfl) ?_
              refine bw_if_ne (tgt := 96) C dX5_copy_90 (by decide) hF (fun hF => ?_) (fun hF => ?_)
              · refine aw_aload_6 C dX5_copy_96 ?_
                refine aw_getR C dX5_copy_98 fX5_268 gX1_0 (aw_s1 (aw_sh s1).2) (aw_sr0 (aw_sh s1).2) ?_
                refine aw_iload_2 C dX5_copy_101 ?_
                refine aw_aload_7 C dX5_copy_102 ?_
                refine aw_getR C dX5_copy_104 fX5_268 gX1_0 (aw_s1 (aw_sh s2).2) (aw_sr0 (aw_sh s2).2) ?_
                refine aw_iload_4 C dX5_copy_107 ?_
                refine aw_iload_5 C dX5_copy_109 ?_
                obtain ⟨s3, hF⟩ := bw_side hF
                refine bw_copy_long C dX5_copy_111 lX5_271 rfl rfl (aw_sa0 (aw_sh s1).2) (aw_sa0 (aw_sh s2).2) s3 ?_
                refine aw_iload_5 C dX5_copy_114 ?_
                obtain rfl := Option.some.inj hF
                exact aw_iret C E dX5_copy_116 rfl rfl (bw_ret rfl)
              · refine aw_bipush C dX5_copy_93 lb_m12 ?_
                obtain rfl := Option.some.inj hF
                exact aw_iret C E dX5_copy_95 rfl rfl (bw_ret rfl)
          · refine aw_bipush C dX5_copy_65 lb_m13 ?_
            obtain rfl := Option.some.inj hF
            exact aw_iret C E dX5_copy_67 rfl rfl (bw_ret rfl)
        · refine aw_bipush C dX5_copy_49 lb_m11 ?_
          obtain rfl := Option.some.inj hF
          exact aw_iret C E dX5_copy_51 rfl rfl (bw_ret rfl)
    · refine aw_bipush C dX5_copy_14 lb_m2 ?_
      obtain rfl := Option.some.inj hF
      exact aw_iret C E dX5_copy_16 rfl rfl (bw_ret rfl)
def FX6_isIn (a1 : Int64) (a2 : Int64) (a3 : Int64) : Int32 :=
  (if (lg_cmp a1 a2) < 0 then (0 : Int32) else (if 0 < (lg_cmp a1 a3) then (0 : Int32) else (1 : Int32)))
set_option maxRecDepth 100000 in
set_option maxHeartbeats 4000000 in
theorem ctX6_isIn (a1 : Int64) (a2 : Int64) (a3 : Int64) (h : aw_H) (y : Int32) (hF : FX6_isIn a1 a2 a3 = y) : Ct 0 0 0 yX6_isIn cX6_isIn 6 (some .boolean) [.long a1, .long a2, .long a3] wL wR h (aw_D (some (.int y)) h) := by
  refine Ct.of (ls0 := [.long a1, .retAddr 0, .long a2, .retAddr 0, .long a3, .retAddr 0]) (by decide +kernel) rfl rfl (fun X C E hnm => ?_)
  have C : aw_C X RX6 cX6_isIn 6 0 0 0 := C
  unfold FX6_isIn at hF
  refine aw_lload_0 C dX6_isIn_0 ?_
  refine aw_lload_2 C dX6_isIn_1 ?_
  refine aw_lcmp C dX6_isIn_2 ?_
  refine bw_if_lt (tgt := 17) C dX6_isIn_3 (by decide) hF (fun hF => ?_) (fun hF => ?_)
  · refine aw_iconst C dX6_isIn_17 li_0 ?_
    subst hF
    exact aw_zret C E rfl dX6_isIn_18 rfl rfl (bw_ret rfl)
  · refine aw_lload_0 C dX6_isIn_6 ?_
    refine aw_lload_4 C dX6_isIn_7 ?_
    refine aw_lcmp C dX6_isIn_9 ?_
    refine bw_if_gt (tgt := 17) C dX6_isIn_10 (by decide) hF (fun hF => ?_) (fun hF => ?_)
    · refine aw_iconst C dX6_isIn_17 li_0 ?_
      subst hF
      exact aw_zret C E rfl dX6_isIn_18 rfl rfl (bw_ret rfl)
    · refine aw_iconst C dX6_isIn_13 li_1 ?_
      refine aw_goto (tgt := 18) C dX6_isIn_14 (by decide) ?_
      subst hF
      exact aw_zret C E rfl dX6_isIn_18 rfl rfl (bw_ret rfl)
theorem bX6_isIn (a1 : Int64) (a2 : Int64) (a3 : Int64) : FX6_isIn a1 a2 a3 = 0 ∨ FX6_isIn a1 a2 a3 = 1 := by
  unfold FX6_isIn
  repeat' split
  all_goals first | exact Or.inl rfl | exact Or.inr rfl
def FX6_isPart (a1 : Int32) (h : aw_H) : Int32 :=
  (FX6_isIn ((a1).toInt64) (0 : Int64) ((((h.1 72 66) - (1 : Int32))).toInt64))
set_option maxRecDepth 100000 in
set_option maxHeartbeats 4000000 in
theorem ctX6_isPart (a1 : Int32) (h : aw_H) (y : Int32) (hF : FX6_isPart a1 h = y) : Ct 1 0 0 yX6_isPart cX6_isPart 2 (some .boolean) [.ref 71, .int a1] wL wR h (aw_D (some (.int y)) h) := by
  refine Ct.of (ls0 := [.ref 71, .int a1]) (by decide +kernel) rfl rfl (fun X C E hnm => ?_)
  have C : aw_C X RX6 cX6_isPart 2 1 0 0 := C
  unfold FX6_isPart at hF
  refine aw_iload_1 C dX6_isPart_0 ?_
  refine aw_i2l C dX6_isPart_1 ?_
  refine aw_lconst C dX6_isPart_2 ll_0 ?_
  refine aw_aload_0 C dX6_isPart_3 ?_
  refine aw_getR C dX6_isPart_4 fX6_11 gX6_0 rfl rfl ?_
  refine aw_bipush C dX6_isPart_7 lb_66 ?_
  refine aw_iald C dX6_isPart_9 rfl (aw_ixk (k := 66) (n := 69) rfl rfl) ?_
  refine aw_iconst C dX6_isPart_10 li_1 ?_
  refine aw_isub C dX6_isPart_11 ?_
  refine aw_i2l C dX6_isPart_12 ?_
  refine bw_S3i C dX6_isPart_13 kyX6_isIn lX6_49 ksX6_isIn rfl rfl (ctX6_isIn ((a1).toInt64) (0 : Int64) ((((h.1 72 66) - (1 : Int32))).toInt64) h _ rfl) ?_
  subst hF
  exact aw_zret C E (aw_nz (bX6_isIn ((a1).toInt64) (0 : Int64) ((((h.1 72 66) - (1 : Int32))).toInt64))) dX6_isPart_16 rfl rfl (bw_ret rfl)
theorem bX6_isPart (a1 : Int32) (h : aw_H) : FX6_isPart a1 h = 0 ∨ FX6_isPart a1 h = 1 := by
  unfold FX6_isPart
  repeat' split
  all_goals first | exact Or.inl rfl | exact Or.inr rfl | exact bX6_isIn _ _ _
def FX6_at (a1 : Int32) (a2 : Int32) (h : aw_H) : Option (Int32) :=
  (if aw_inb (((11 : Int32) * a1) + a2) 69 = true then some (h.1 72 ((((11 : Int32) * a1) + a2)).toNatClampNeg) else none)
set_option maxRecDepth 100000 in
set_option maxHeartbeats 4000000 in
theorem ctX6_at (a1 : Int32) (a2 : Int32) (h : aw_H) (y : Int32) (hF : FX6_at a1 a2 h = some y) : Ct 0 0 0 yX6_at cX6_at 3 (some .int) [.ref 71, .int a1, .int a2] wL wR h (aw_D (some (.int y)) h) := by
  refine Ct.of (ls0 := [.ref 71, .int a1, .int a2]) (by decide +kernel) rfl rfl (fun X C E hnm => ?_)
  have C : aw_C X RX6 cX6_at 3 0 0 0 := C
  unfold FX6_at at hF
  refine aw_aload_0 C dX6_at_0 ?_
  refine aw_getR C dX6_at_1 fX6_11 gX6_0 rfl rfl ?_
  refine aw_bipush C dX6_at_4 lb_11 ?_
  refine aw_iload_1 C dX6_at_6 ?_
  refine aw_imul C dX6_at_7 ?_
  refine aw_iload_2 C dX6_at_8 ?_
  refine aw_iadd C dX6_at_9 ?_
  obtain ⟨s1, hF⟩ := bw_side hF
  refine aw_iald C dX6_at_10 rfl (aw_ix s1) ?_
  obtain rfl := Option.some.inj hF
  exact aw_iret C E dX6_at_11 rfl rfl (bw_ret rfl)
def FX6_lays (a1 : Int32) (a2 : Int32) (a3 : Int32) (h : aw_H) : Option (aw_H) :=
  (if aw_inb (((11 : Int32) * a1) + a2) 69 = true then some (aw_sI h 72 ((((11 : Int32) * a1) + a2)).toNatClampNeg a3) else none)
set_option maxRecDepth 100000 in
set_option maxHeartbeats 4000000 in
theorem ctX6_lays (a1 : Int32) (a2 : Int32) (a3 : Int32) (h : aw_H) (y : aw_H) (hF : FX6_lays a1 a2 a3 h = some y) : Ct 0 0 0 yX6_lays cX6_lays 4 none [.ref 71, .int a1, .int a2, .int a3] wL wR h (aw_D (none) y) := by
  refine Ct.of (ls0 := [.ref 71, .int a1, .int a2, .int a3]) (by decide +kernel) rfl rfl (fun X C E hnm => ?_)
  have C : aw_C X RX6 cX6_lays 4 0 0 0 := C
  unfold FX6_lays at hF
  refine aw_aload_0 C dX6_lays_0 ?_
  refine aw_getR C dX6_lays_1 fX6_11 gX6_0 rfl rfl ?_
  refine aw_bipush C dX6_lays_4 lb_11 ?_
  refine aw_iload_1 C dX6_lays_6 ?_
  refine aw_imul C dX6_lays_7 ?_
  refine aw_iload_2 C dX6_lays_8 ?_
  refine aw_iadd C dX6_lays_9 ?_
  refine aw_iload_3 C dX6_lays_10 ?_
  obtain ⟨s1, hF⟩ := bw_side hF
  refine aw_iast C dX6_lays_11 rfl (aw_ix s1) ?_
  obtain rfl := Option.some.inj hF
  exact aw_vret C E dX6_lays_12 rfl rfl (bw_ret rfl)
def FX6_isLine (a1 : Int32) : Int32 :=
  (if a1 = 0 then (1 : Int32) else (if a1 = (1 : Int32) then (1 : Int32) else (0 : Int32)))
set_option maxRecDepth 100000 in
set_option maxHeartbeats 4000000 in
theorem ctX6_isLine (a1 : Int32) (h : aw_H) (y : Int32) (hF : FX6_isLine a1 = y) : Ct 0 0 0 yX6_isLine cX6_isLine 1 (some .boolean) [.int a1] wL wR h (aw_D (some (.int y)) h) := by
  refine Ct.of (ls0 := [.int a1]) (by decide +kernel) rfl rfl (fun X C E hnm => ?_)
  have C : aw_C X RX6 cX6_isLine 1 0 0 0 := C
  unfold FX6_isLine at hF
  refine aw_iload_0 C dX6_isLine_0 ?_
  refine bw_if_eq (tgt := 9) C dX6_isLine_1 (by decide) hF (fun hF => ?_) (fun hF => ?_)
  · refine aw_iconst C dX6_isLine_9 li_1 ?_
    refine aw_goto (tgt := 14) C dX6_isLine_10 (by decide) ?_
    subst hF
    exact aw_zret C E rfl dX6_isLine_14 rfl rfl (bw_ret rfl)
  · refine aw_iload_0 C dX6_isLine_4 ?_
    refine aw_iconst C dX6_isLine_5 li_1 ?_
    refine bw_icmp_ne (tgt := 13) C dX6_isLine_6 (by decide) hF (fun hF => ?_) (fun hF => ?_)
    · refine aw_iconst C dX6_isLine_13 li_0 ?_
      subst hF
      exact aw_zret C E rfl dX6_isLine_14 rfl rfl (bw_ret rfl)
    · refine aw_iconst C dX6_isLine_9 li_1 ?_
      refine aw_goto (tgt := 14) C dX6_isLine_10 (by decide) ?_
      subst hF
      exact aw_zret C E rfl dX6_isLine_14 rfl rfl (bw_ret rfl)
theorem bX6_isLine (a1 : Int32) : FX6_isLine a1 = 0 ∨ FX6_isLine a1 = 1 := by
  unfold FX6_isLine
  repeat' split
  all_goals first | exact Or.inl rfl | exact Or.inr rfl
def FX6_mayBe (a1 : Int32) (a2 : Int32) : Int32 :=
  (if a1 = 0 then (FX6_isIn ((a2).toInt64) (0 : Int64) (5 : Int64)) else (if a1 = (1 : Int32) then (FX6_isIn ((a2).toInt64) (0 : Int64) (9 : Int64)) else (if a1 = (2 : Int32) then (FX6_isIn ((a2).toInt64) (0 : Int64) (999 : Int64)) else (FX6_isIn ((a2).toInt64) (0 : Int64) (1023 : Int64)))))
set_option maxRecDepth 100000 in
set_option maxHeartbeats 4000000 in
theorem ctX6_mayBe (a1 : Int32) (a2 : Int32) (h : aw_H) (y : Int32) (hF : FX6_mayBe a1 a2 = y) : Ct 1 0 0 yX6_mayBe cX6_mayBe 2 (some .boolean) [.int a1, .int a2] wL wR h (aw_D (some (.int y)) h) := by
  refine Ct.of (ls0 := [.int a1, .int a2]) (by decide +kernel) rfl rfl (fun X C E hnm => ?_)
  have C : aw_C X RX6 cX6_mayBe 2 1 0 0 := C
  unfold FX6_mayBe at hF
  refine aw_iload_1 C dX6_mayBe_0 ?_
  refine aw_i2l C dX6_mayBe_1 ?_
  refine aw_lconst C dX6_mayBe_2 ll_0 ?_
  refine aw_iload_0 C dX6_mayBe_3 ?_
  refine bw_if_ne (tgt := 13) C dX6_mayBe_4 (by decide) hF (fun hF => ?_) (fun hF => ?_)
  · refine aw_iload_0 C dX6_mayBe_13 ?_
    refine aw_iconst C dX6_mayBe_14 li_1 ?_
    refine bw_icmp_ne (tgt := 24) C dX6_mayBe_15 (by decide) hF (fun hF => ?_) (fun hF => ?_)
    · refine aw_iload_0 C dX6_mayBe_24 ?_
      refine aw_iconst C dX6_mayBe_25 li_2 ?_
      refine bw_icmp_ne (tgt := 35) C dX6_mayBe_26 (by decide) hF (fun hF => ?_) (fun hF => ?_)
      · refine aw_ldc2 C dX6_mayBe_35 nX6_59 ?_
        refine bw_S3i C dX6_mayBe_38 kyX6_isIn lX6_49 ksX6_isIn rfl rfl (ctX6_isIn ((a2).toInt64) (0 : Int64) (1023 : Int64) h _ rfl) ?_
        subst hF
        exact aw_zret C E (aw_nz (bX6_isIn ((a2).toInt64) (0 : Int64) (1023 : Int64))) dX6_mayBe_41 rfl rfl (bw_ret rfl)
      · refine aw_ldc2 C dX6_mayBe_29 nX6_57 ?_
        refine aw_goto (tgt := 38) C dX6_mayBe_32 (by decide) ?_
        refine bw_S3i C dX6_mayBe_38 kyX6_isIn lX6_49 ksX6_isIn rfl rfl (ctX6_isIn ((a2).toInt64) (0 : Int64) (999 : Int64) h _ rfl) ?_
        subst hF
        exact aw_zret C E (aw_nz (bX6_isIn ((a2).toInt64) (0 : Int64) (999 : Int64))) dX6_mayBe_41 rfl rfl (bw_ret rfl)
    · refine aw_ldc2 C dX6_mayBe_18 nX6_55 ?_
      refine aw_goto (tgt := 38) C dX6_mayBe_21 (by decide) ?_
      refine bw_S3i C dX6_mayBe_38 kyX6_isIn lX6_49 ksX6_isIn rfl rfl (ctX6_isIn ((a2).toInt64) (0 : Int64) (9 : Int64) h _ rfl) ?_
      subst hF
      exact aw_zret C E (aw_nz (bX6_isIn ((a2).toInt64) (0 : Int64) (9 : Int64))) dX6_mayBe_41 rfl rfl (bw_ret rfl)
  · refine aw_ldc2 C dX6_mayBe_7 nX6_53 ?_
    refine aw_goto (tgt := 38) C dX6_mayBe_10 (by decide) ?_
    refine bw_S3i C dX6_mayBe_38 kyX6_isIn lX6_49 ksX6_isIn rfl rfl (ctX6_isIn ((a2).toInt64) (0 : Int64) (5 : Int64) h _ rfl) ?_
    subst hF
    exact aw_zret C E (aw_nz (bX6_isIn ((a2).toInt64) (0 : Int64) (5 : Int64))) dX6_mayBe_41 rfl rfl (bw_ret rfl)
theorem bX6_mayBe (a1 : Int32) (a2 : Int32) : FX6_mayBe a1 a2 = 0 ∨ FX6_mayBe a1 a2 = 1 := by
  unfold FX6_mayBe
  repeat' split
  all_goals first | exact Or.inl rfl | exact Or.inr rfl | exact bX6_isIn _ _ _
def FX6_part (a1 : Int32) (a2 : Int32) (a3 : Int32) (a4 : Int32) (h : aw_H) : Option (Int32 × aw_H) :=
  (if (FX6_mayBe (0 : Int32) a1) = 0 then some ((-2 : Int32), h) else (if (FX6_mayBe (1 : Int32) a2) = 0 then some ((-2 : Int32), h) else (if (FX6_mayBe (2 : Int32) a3) = 0 then some ((-2 : Int32), h) else (if (FX6_mayBe (3 : Int32) a4) = 0 then some ((-2 : Int32), h) else (if (h.1 72 66) = (6 : Int32) then some ((-4 : Int32), h) else ((FX6_lays (h.1 72 66) (0 : Int32) a1 (aw_sI h 72 66 ((h.1 72 66) + (1 : Int32)))).bind (fun q1 => ((FX6_lays (h.1 72 66) (1 : Int32) a2 q1).bind (fun q3 => ((FX6_lays (h.1 72 66) (2 : Int32) a3 q3).bind (fun q5 => ((FX6_lays (h.1 72 66) (3 : Int32) a4 q5).bind (fun q7 => ((FX6_lays (h.1 72 66) (4 : Int32) (0 : Int32) q7).bind (fun q9 => some ((h.1 72 66), q9))))))))))))))))
set_option maxRecDepth 100000 in
set_option maxHeartbeats 4000000 in
theorem ctX6_part (a1 : Int32) (a2 : Int32) (a3 : Int32) (a4 : Int32) (h : aw_H) (y : Int32 × aw_H) (hF : FX6_part a1 a2 a3 a4 h = some y) : Ct 2 0 0 yX6_part cX6_part 6 (some .int) [.ref 71, .int a1, .int a2, .int a3, .int a4] wL wR h (aw_D (some (.int y.1)) y.2) := by
  refine Ct.of (ls0 := [.ref 71, .int a1, .int a2, .int a3, .int a4, .retAddr 0]) (by decide +kernel) rfl rfl (fun X C E hnm => ?_)
  have C : aw_C X RX6 cX6_part 6 2 0 0 := C
  unfold FX6_part at hF
  refine aw_iconst C dX6_part_0 li_0 ?_
  refine aw_iload_1 C dX6_part_1 ?_
  refine bw_S2i C dX6_part_2 kyX6_mayBe lX6_61 ksX6_mayBe rfl rfl (ctX6_mayBe (0 : Int32) a1 h _ rfl) ?_
  refine bw_if_eq (tgt := 33) C dX6_part_5 (by decide) hF (fun hF => ?_) (fun hF => ?_)
  · refine aw_bipush C dX6_part_33 lb_m2 ?_
    obtain rfl := Option.some.inj hF
    exact aw_iret C E dX6_part_35 rfl rfl (bw_ret rfl)
  · refine aw_iconst C dX6_part_8 li_1 ?_
    refine aw_iload_2 C dX6_part_9 ?_
    refine bw_S2i C dX6_part_10 kyX6_mayBe lX6_61 ksX6_mayBe rfl rfl (ctX6_mayBe (1 : Int32) a2 h _ rfl) ?_
    refine bw_if_eq (tgt := 33) C dX6_part_13 (by decide) hF (fun hF => ?_) (fun hF => ?_)
    · refine aw_bipush C dX6_part_33 lb_m2 ?_
      obtain rfl := Option.some.inj hF
      exact aw_iret C E dX6_part_35 rfl rfl (bw_ret rfl)
    · refine aw_iconst C dX6_part_16 li_2 ?_
      refine aw_iload_3 C dX6_part_17 ?_
      refine bw_S2i C dX6_part_18 kyX6_mayBe lX6_61 ksX6_mayBe rfl rfl (ctX6_mayBe (2 : Int32) a3 h _ rfl) ?_
      refine bw_if_eq (tgt := 33) C dX6_part_21 (by decide) hF (fun hF => ?_) (fun hF => ?_)
      · refine aw_bipush C dX6_part_33 lb_m2 ?_
        obtain rfl := Option.some.inj hF
        exact aw_iret C E dX6_part_35 rfl rfl (bw_ret rfl)
      · refine aw_iconst C dX6_part_24 li_3 ?_
        refine aw_iload_4 C dX6_part_25 ?_
        refine bw_S2i C dX6_part_27 kyX6_mayBe lX6_61 ksX6_mayBe rfl rfl (ctX6_mayBe (3 : Int32) a4 h _ rfl) ?_
        refine bw_if_ne (tgt := 36) C dX6_part_30 (by decide) hF (fun hF => ?_) (fun hF => ?_)
        · refine aw_aload_0 C dX6_part_36 ?_
          refine aw_getR C dX6_part_37 fX6_11 gX6_0 rfl rfl ?_
          refine aw_bipush C dX6_part_40 lb_66 ?_
          refine aw_iald C dX6_part_42 rfl (aw_ixk (k := 66) (n := 69) rfl rfl) ?_
          refine aw_bipush C dX6_part_43 lb_6 ?_
          refine bw_icmp_ne (tgt := 51) C dX6_part_45 (by decide) hF (fun hF => ?_) (fun hF => ?_)
          · refine aw_aload_0 C dX6_part_51 ?_
            refine aw_getR C dX6_part_52 fX6_11 gX6_0 rfl rfl ?_
            refine aw_bipush C dX6_part_55 lb_66 ?_
            refine aw_iald C dX6_part_57 rfl (aw_ixk (k := 66) (n := 69) rfl rfl) ?_
            refine aw_istore_5 C dX6_part_58 rfl rfl ?_
            refine aw_aload_0 C dX6_part_60 ?_
            refine aw_getR C dX6_part_61 fX6_11 gX6_0 rfl rfl ?_
            refine aw_bipush C dX6_part_64 lb_66 ?_
            refine aw_dup2 C dX6_part_66 rfl rfl ?_
            refine aw_iald C dX6_part_67 rfl (aw_ixk (k := 66) (n := 69) rfl rfl) ?_
            refine aw_iconst C dX6_part_68 li_1 ?_
            refine aw_iadd C dX6_part_69 ?_
            refine aw_iast C dX6_part_70 rfl (aw_ixk (k := 66) (n := 69) rfl rfl) ?_
            refine aw_aload_0 C dX6_part_71 ?_
            refine aw_iload_5 C dX6_part_72 ?_
            refine aw_iconst C dX6_part_74 li_0 ?_
            refine aw_iload_1 C dX6_part_75 ?_
            obtain ⟨q1, e2, hF⟩ := bw_bind hF
            refine bw_V3v C dX6_part_76 kyX6_lays lX6_65 kiX6_lays kvX6_lays (aw_rv C rfl rfl) rfl rfl (ctX6_lays (h.1 72 66) (0 : Int32) a1 (aw_sI h 72 66 ((h.1 72 66) + (1 : Int32))) q1 e2) ?_
            refine aw_aload_0 C dX6_part_79 ?_
            refine aw_iload_5 C dX6_part_80 ?_
            refine aw_iconst C dX6_part_82 li_1 ?_
            refine aw_iload_2 C dX6_part_83 ?_
            obtain ⟨q3, e4, hF⟩ := bw_bind hF
            refine bw_V3v C dX6_part_84 kyX6_lays lX6_65 kiX6_lays kvX6_lays (aw_rv C rfl rfl) rfl rfl (ctX6_lays (h.1 72 66) (1 : Int32) a2 q1 q3 e4) ?_
            refine aw_aload_0 C dX6_part_87 ?_
            refine aw_iload_5 C dX6_part_88 ?_
            refine aw_iconst C dX6_part_90 li_2 ?_
            refine aw_iload_3 C dX6_part_91 ?_
            obtain ⟨q5, e6, hF⟩ := bw_bind hF
            refine bw_V3v C dX6_part_92 kyX6_lays lX6_65 kiX6_lays kvX6_lays (aw_rv C rfl rfl) rfl rfl (ctX6_lays (h.1 72 66) (2 : Int32) a3 q3 q5 e6) ?_
            refine aw_aload_0 C dX6_part_95 ?_
            refine aw_iload_5 C dX6_part_96 ?_
            refine aw_iconst C dX6_part_98 li_3 ?_
            refine aw_iload_4 C dX6_part_99 ?_
            obtain ⟨q7, e8, hF⟩ := bw_bind hF
            refine bw_V3v C dX6_part_101 kyX6_lays lX6_65 kiX6_lays kvX6_lays (aw_rv C rfl rfl) rfl rfl (ctX6_lays (h.1 72 66) (3 : Int32) a4 q5 q7 e8) ?_
            refine aw_aload_0 C dX6_part_104 ?_
            refine aw_iload_5 C dX6_part_105 ?_
            refine aw_iconst C dX6_part_107 li_4 ?_
            refine aw_iconst C dX6_part_108 li_0 ?_
            obtain ⟨q9, e10, hF⟩ := bw_bind hF
            refine bw_V3v C dX6_part_109 kyX6_lays lX6_65 kiX6_lays kvX6_lays (aw_rv C rfl rfl) rfl rfl (ctX6_lays (h.1 72 66) (4 : Int32) (0 : Int32) q7 q9 e10) ?_
            refine aw_iload_5 C dX6_part_112 ?_
            obtain rfl := Option.some.inj hF
            exact aw_iret C E dX6_part_114 rfl rfl (bw_ret rfl)
          · refine aw_bipush C dX6_part_48 lb_m4 ?_
            obtain rfl := Option.some.inj hF
            exact aw_iret C E dX6_part_50 rfl rfl (bw_ret rfl)
        · refine aw_bipush C dX6_part_33 lb_m2 ?_
          obtain rfl := Option.some.inj hF
          exact aw_iret C E dX6_part_35 rfl rfl (bw_ret rfl)
def FX6_drop (h : aw_H) : Option (Int32 × aw_H) :=
  (if (h.1 72 66) = 0 then some ((-3 : Int32), h) else some (((aw_sI h 72 66 ((h.1 72 66) - (1 : Int32))).1 72 66), (aw_sI h 72 66 ((h.1 72 66) - (1 : Int32)))))
set_option maxRecDepth 100000 in
set_option maxHeartbeats 4000000 in
theorem ctX6_drop (h : aw_H) (y : Int32 × aw_H) (hF : FX6_drop h = some y) : Ct 0 0 0 yX6_drop cX6_drop 1 (some .int) [.ref 71] wL wR h (aw_D (some (.int y.1)) y.2) := by
  refine Ct.of (ls0 := [.ref 71]) (by decide +kernel) rfl rfl (fun X C E hnm => ?_)
  have C : aw_C X RX6 cX6_drop 1 0 0 0 := C
  unfold FX6_drop at hF
  refine aw_aload_0 C dX6_drop_0 ?_
  refine aw_getR C dX6_drop_1 fX6_11 gX6_0 rfl rfl ?_
  refine aw_bipush C dX6_drop_4 lb_66 ?_
  refine aw_iald C dX6_drop_6 rfl (aw_ixk (k := 66) (n := 69) rfl rfl) ?_
  refine bw_if_ne (tgt := 13) C dX6_drop_7 (by decide) hF (fun hF => ?_) (fun hF => ?_)
  · refine aw_aload_0 C dX6_drop_13 ?_
    refine aw_getR C dX6_drop_14 fX6_11 gX6_0 rfl rfl ?_
    refine aw_bipush C dX6_drop_17 lb_66 ?_
    refine aw_dup2 C dX6_drop_19 rfl rfl ?_
    refine aw_iald C dX6_drop_20 rfl (aw_ixk (k := 66) (n := 69) rfl rfl) ?_
    refine aw_iconst C dX6_drop_21 li_1 ?_
    refine aw_isub C dX6_drop_22 ?_
    refine aw_iast C dX6_drop_23 rfl (aw_ixk (k := 66) (n := 69) rfl rfl) ?_
    refine aw_aload_0 C dX6_drop_24 ?_
    refine aw_getR C dX6_drop_25 fX6_11 gX6_0 rfl rfl ?_
    refine aw_bipush C dX6_drop_28 lb_66 ?_
    refine aw_iald C dX6_drop_30 rfl (aw_ixk (k := 66) (n := 69) rfl rfl) ?_
    obtain rfl := Option.some.inj hF
    exact aw_iret C E dX6_drop_31 rfl rfl (bw_ret rfl)
  · refine aw_bipush C dX6_drop_10 lb_m3 ?_
    obtain rfl := Option.some.inj hF
    exact aw_iret C E dX6_drop_12 rfl rfl (bw_ret rfl)

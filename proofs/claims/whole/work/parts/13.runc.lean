def FX5_heightOf (a1 : Int32) (a2 : Int32) (h : aw_H) : Option (Int64) :=
  ((FX4_wheelOf a1 h).bind (fun q1 => (aw_on q1 (some (-9223372036854775808 : Int64)) (fun w3 => (if aw_isW w3 = true then (if (FX5_isTick a2) = 0 then some (-9223372036854775808 : Int64) else ((FX3_swing w3 a2 h).bind (fun q5 => some q5))) else none)))))
set_option maxRecDepth 100000 in
set_option maxHeartbeats 4000000 in
theorem ctX5_heightOf (a1 : Int32) (a2 : Int32) (h : aw_H) (y : Int64) (hF : FX5_heightOf a1 a2 h = some y) : Ct 4 0 0 yX5_heightOf cX5_heightOf 4 (some .long) [.ref 0, .int a1, .int a2] wL wR h (aw_D (some (.long y)) h) := by
  refine Ct.of (ls0 := [.ref 0, .int a1, .int a2, .retAddr 0]) (by decide +kernel) rfl rfl (fun X C E hnm => ?_)
  have C : aw_C X RX5 cX5_heightOf 4 4 0 0 := C
  unfold FX5_heightOf at hF
  refine aw_aload_0 C dX5_heightOf_0 ?_
  refine aw_getR C dX5_heightOf_1 fX5_12 gX5_0 rfl rfl ?_
  refine aw_iload_1 C dX5_heightOf_4 ?_
  obtain ⟨q1, e2, hF⟩ := bw_bind hF
  refine bw_V1q C dX5_heightOf_5 kyX4_wheelOf lX5_69 kiX4_wheelOf kvX4_wheelOf (aw_rv C rfl rfl) rfl rfl (ctX4_wheelOf a1 h q1 e2) ?_
  refine bw_on hF (fun hF => ?_) (fun w3 hF => ?_)
  · refine aw_astoreN_3 C dX5_heightOf_8 rfl rfl ?_
    refine aw_aloadN_3 C dX5_heightOf_9 ?_
    refine aw_ifnullN (tgt := 20) C dX5_heightOf_10 (by decide) ?_
    refine aw_ldc2 C dX5_heightOf_20 nX5_131 ?_
    refine aw_goto (tgt := 31) C dX5_heightOf_23 (by decide) ?_
    obtain rfl := Option.some.inj hF
    exact aw_lret C E dX5_heightOf_31 rfl rfl (bw_ret rfl)
  · obtain ⟨s4, hF⟩ := bw_side hF
    refine aw_astore_3 C dX5_heightOf_8 rfl rfl ?_
    refine aw_aload_3 C dX5_heightOf_9 ?_
    refine aw_ifnullR C dX5_heightOf_10 ?_
    refine aw_iload_2 C dX5_heightOf_13 ?_
    refine bw_S1i C dX5_heightOf_14 kyX5_isTick lX5_148 ksX5_isTick rfl rfl (ctX5_isTick a2 h _ rfl) ?_
    refine bw_if_ne (tgt := 26) C dX5_heightOf_17 (by decide) hF (fun hF => ?_) (fun hF => ?_)
    · refine aw_aload_3 C dX5_heightOf_26 ?_
      refine aw_iload_2 C dX5_heightOf_27 ?_
      obtain ⟨q5, e6, hF⟩ := bw_bind hF
      refine bw_V1l C dX5_heightOf_28 kyX3_swing lX5_151 kiX3_swing kvX3_swing (aw_rv C (aw_w1 s4) rfl) rfl rfl (ctX3_swing w3 a2 h s4 q5 e6) ?_
      obtain rfl := Option.some.inj hF
      exact aw_lret C E dX5_heightOf_31 rfl rfl (bw_ret rfl)
    · refine aw_ldc2 C dX5_heightOf_20 nX5_131 ?_
      refine aw_goto (tgt := 31) C dX5_heightOf_23 (by decide) ?_
      obtain rfl := Option.some.inj hF
      exact aw_lret C E dX5_heightOf_31 rfl rfl (bw_ret rfl)
def FX5_place (a1 : Int32) (a2 : Int32) (h : aw_H) : Option (Int32) :=
  ((FX4_wheelOf a1 h).bind (fun q1 => (aw_on q1 (some (-2 : Int32)) (fun w3 => (if aw_isW w3 = true then (if (FX5_isTick a2) = 0 then some (-2 : Int32) else ((FX3_spot w3 a2 h).bind (fun q5 => some q5))) else none)))))
set_option maxRecDepth 100000 in
set_option maxHeartbeats 4000000 in
theorem ctX5_place (a1 : Int32) (a2 : Int32) (h : aw_H) (y : Int32) (hF : FX5_place a1 a2 h = some y) : Ct 3 0 0 yX5_place cX5_place 4 (some .int) [.ref 0, .int a1, .int a2] wL wR h (aw_D (some (.int y)) h) := by
  refine Ct.of (ls0 := [.ref 0, .int a1, .int a2, .retAddr 0]) (by decide +kernel) rfl rfl (fun X C E hnm => ?_)
  have C : aw_C X RX5 cX5_place 4 3 0 0 := C
  unfold FX5_place at hF
  refine aw_aload_0 C dX5_place_0 ?_
  refine aw_getR C dX5_place_1 fX5_12 gX5_0 rfl rfl ?_
  refine aw_iload_1 C dX5_place_4 ?_
  obtain ⟨q1, e2, hF⟩ := bw_bind hF
  refine bw_V1q C dX5_place_5 kyX4_wheelOf lX5_69 kiX4_wheelOf kvX4_wheelOf (aw_rv C rfl rfl) rfl rfl (ctX4_wheelOf a1 h q1 e2) ?_
  refine bw_on hF (fun hF => ?_) (fun w3 hF => ?_)
  · refine aw_astoreN_3 C dX5_place_8 rfl rfl ?_
    refine aw_aloadN_3 C dX5_place_9 ?_
    refine aw_ifnullN (tgt := 20) C dX5_place_10 (by decide) ?_
    refine aw_bipush C dX5_place_20 lb_m2 ?_
    refine aw_goto (tgt := 30) C dX5_place_22 (by decide) ?_
    obtain rfl := Option.some.inj hF
    exact aw_iret C E dX5_place_30 rfl rfl (bw_ret rfl)
  · obtain ⟨s4, hF⟩ := bw_side hF
    refine aw_astore_3 C dX5_place_8 rfl rfl ?_
    refine aw_aload_3 C dX5_place_9 ?_
    refine aw_ifnullR C dX5_place_10 ?_
    refine aw_iload_2 C dX5_place_13 ?_
    refine bw_S1i C dX5_place_14 kyX5_isTick lX5_148 ksX5_isTick rfl rfl (ctX5_isTick a2 h _ rfl) ?_
    refine bw_if_ne (tgt := 25) C dX5_place_17 (by decide) hF (fun hF => ?_) (fun hF => ?_)
    · refine aw_aload_3 C dX5_place_25 ?_
      refine aw_iload_2 C dX5_place_26 ?_
      obtain ⟨q5, e6, hF⟩ := bw_bind hF
      refine bw_V1i C dX5_place_27 kyX3_spot lX5_154 kiX3_spot kvX3_spot (aw_rv C (aw_w1 s4) rfl) rfl rfl (ctX3_spot w3 a2 h s4 q5 e6) ?_
      obtain rfl := Option.some.inj hF
      exact aw_iret C E dX5_place_30 rfl rfl (bw_ret rfl)
    · refine aw_bipush C dX5_place_20 lb_m2 ?_
      refine aw_goto (tgt := 30) C dX5_place_22 (by decide) ?_
      obtain rfl := Option.some.inj hF
      exact aw_iret C E dX5_place_30 rfl rfl (bw_ret rfl)
def BX5_waters_73 (n : Nat) (a1 : Int32) (a2 : Int32) (a3 : Int32) (u73 : (Int32 × Int32 × Int64 × Int32 × aw_H)) : Option ((Int32 × Int32 × Int64 × Int32 × aw_H) ⊕ (Int32 × aw_H)) :=
  (if (a1 + a2) ≤ u73.2.2.2.1 then (if (2 : Int32) ≤ a3 then some (Sum.inr (u73.2.1, u73.2.2.2.2)) else some (Sum.inr (u73.1, u73.2.2.2.2))) else ((FX4_level n (u73.2.2.2.1 + (1 : Int32)) u73.2.2.2.2).bind (fun q5 => ((FX0_step q5 u73.2.2.2.2).bind (fun q7 => (if q7.1 = (1 : Int32) then (if u73.2.1 = (-1 : Int32) then some (Sum.inl ((u73.1 + (1 : Int32)), u73.2.2.2.1, (u73.2.2.2.2.2 62 0), (u73.2.2.2.1 + (1 : Int32)), q7.2)) else (if (lg_cmp (((1 : Int32)).toInt64 * (u73.2.2.2.2.2 62 0)) (((1 : Int32)).toInt64 * u73.2.2.1)) ≤ 0 then some (Sum.inl ((u73.1 + (1 : Int32)), u73.2.1, u73.2.2.1, (u73.2.2.2.1 + (1 : Int32)), q7.2)) else some (Sum.inl ((u73.1 + (1 : Int32)), u73.2.2.2.1, (u73.2.2.2.2.2 62 0), (u73.2.2.2.1 + (1 : Int32)), q7.2)))) else some (Sum.inl (u73.1, u73.2.1, u73.2.2.1, (u73.2.2.2.1 + (1 : Int32)), q7.2))))))))
def BX5_waters_73' (n : Nat) (a1 : Int32) (a2 : Int32) (a3 : Int32) (u73 : (Int32 × Int32 × Int64 × Int32 × aw_H)) : Option ((Int32 × Int32 × Int64 × Int32 × aw_H) ⊕ (Int32 × aw_H)) :=
  (if (a1 + a2) ≤ u73.2.2.2.1 then (if (2 : Int32) ≤ a3 then some (Sum.inr (u73.2.1, u73.2.2.2.2)) else some (Sum.inr (u73.1, u73.2.2.2.2))) else ((FX4_level n (u73.2.2.2.1 + (1 : Int32)) u73.2.2.2.2).bind (fun q13 => ((FX0_step q13 u73.2.2.2.2).bind (fun q15 => (if q15.1 = (-1 : Int32) then (if u73.2.1 = (-1 : Int32) then some (Sum.inl ((u73.1 + (1 : Int32)), u73.2.2.2.1, (u73.2.2.2.2.2 62 0), (u73.2.2.2.1 + (1 : Int32)), q15.2)) else (if (lg_cmp (((-1 : Int32)).toInt64 * (u73.2.2.2.2.2 62 0)) (((-1 : Int32)).toInt64 * u73.2.2.1)) ≤ 0 then some (Sum.inl ((u73.1 + (1 : Int32)), u73.2.1, u73.2.2.1, (u73.2.2.2.1 + (1 : Int32)), q15.2)) else some (Sum.inl ((u73.1 + (1 : Int32)), u73.2.2.2.1, (u73.2.2.2.2.2 62 0), (u73.2.2.2.1 + (1 : Int32)), q15.2)))) else some (Sum.inl (u73.1, u73.2.1, u73.2.2.1, (u73.2.2.2.1 + (1 : Int32)), q15.2))))))))
def BX5_waters_73'' (n : Nat) (a1 : Int32) (a2 : Int32) (a3 : Int32) (u73 : (Int32 × Int32 × Int64 × Int32 × aw_H)) : Option ((Int32 × Int32 × Int64 × Int32 × aw_H) ⊕ (Int32 × aw_H)) :=
  (if (a1 + a2) ≤ u73.2.2.2.1 then (if (2 : Int32) ≤ a3 then some (Sum.inr (u73.2.1, u73.2.2.2.2)) else some (Sum.inr (u73.1, u73.2.2.2.2))) else ((FX4_level n (u73.2.2.2.1 + (1 : Int32)) u73.2.2.2.2).bind (fun q21 => ((FX0_step q21 u73.2.2.2.2).bind (fun q23 => (if q23.1 = (1 : Int32) then (if u73.2.1 = (-1 : Int32) then some (Sum.inl ((u73.1 + (1 : Int32)), u73.2.2.2.1, (u73.2.2.2.2.2 62 0), (u73.2.2.2.1 + (1 : Int32)), q23.2)) else (if (lg_cmp (((1 : Int32)).toInt64 * (u73.2.2.2.2.2 62 0)) (((1 : Int32)).toInt64 * u73.2.2.1)) ≤ 0 then some (Sum.inl ((u73.1 + (1 : Int32)), u73.2.1, u73.2.2.1, (u73.2.2.2.1 + (1 : Int32)), q23.2)) else some (Sum.inl ((u73.1 + (1 : Int32)), u73.2.2.2.1, (u73.2.2.2.2.2 62 0), (u73.2.2.2.1 + (1 : Int32)), q23.2)))) else some (Sum.inl (u73.1, u73.2.1, u73.2.2.1, (u73.2.2.2.1 + (1 : Int32)), q23.2))))))))
def FX5_waters (n : Nat) (a1 : Int32) (a2 : Int32) (a3 : Int32) (h : aw_H) : Option (Int32 × aw_H) :=
  (if (FX5_isTick a1) = 0 then some ((-2 : Int32), h) else (if (FX5_within a2 (1 : Int32) (2000 : Int32)) = 0 then some ((-2 : Int32), h) else (if (FX5_within a3 (0 : Int32) (3 : Int32)) = 0 then some ((-2 : Int32), h) else (if a3 = 0 then ((FX4_level n a1 h).bind (fun q1 => ((FX0_start q1 h).bind (fun q3 => aw_loop (BX5_waters_73 n a1 a2 a3) n ((0 : Int32), (-1 : Int32), (0 : Int64), a1, q3))))) else (if a3 = (2 : Int32) then ((FX4_level n a1 h).bind (fun q17 => ((FX0_start q17 h).bind (fun q19 => aw_loop (BX5_waters_73'' n a1 a2 a3) n ((0 : Int32), (-1 : Int32), (0 : Int64), a1, q19))))) else ((FX4_level n a1 h).bind (fun q9 => ((FX0_start q9 h).bind (fun q11 => aw_loop (BX5_waters_73' n a1 a2 a3) n ((0 : Int32), (-1 : Int32), (0 : Int64), a1, q11))))))))))
set_option maxRecDepth 100000 in
set_option maxHeartbeats 4000000 in
theorem ctX5_waters (n : Nat) (a1 : Int32) (a2 : Int32) (a3 : Int32) (h : aw_H) (y : Int32 × aw_H) (hF : FX5_waters n a1 a2 a3 h = some y) : Ct 5 0 0 yX5_waters cX5_waters 12 (some .int) [.ref 0, .int a1, .int a2, .int a3] wL wR h (aw_D (some (.int y.1)) y.2) := by
  refine Ct.of (ls0 := [.ref 0, .int a1, .int a2, .int a3, .retAddr 0, .retAddr 0, .retAddr 0, .retAddr 0, .retAddr 0, .retAddr 0, .retAddr 0, .retAddr 0]) (by decide +kernel) rfl rfl (fun X C E hnm => ?_)
  have C : aw_C X RX5 cX5_waters 12 5 0 0 := C
  unfold FX5_waters at hF
  refine aw_iload_1 C dX5_waters_0 ?_
  refine bw_S1i C dX5_waters_1 kyX5_isTick lX5_148 ksX5_isTick rfl rfl (ctX5_isTick a1 h _ rfl) ?_
  refine bw_if_eq (tgt := 27) C dX5_waters_4 (by decide) hF (fun hF => ?_) (fun hF => ?_)
  · refine aw_bipush C dX5_waters_27 lb_m2 ?_
    obtain rfl := Option.some.inj hF
    exact aw_iret C E dX5_waters_29 rfl rfl (bw_ret rfl)
  · refine aw_iload_2 C dX5_waters_7 ?_
    refine aw_iconst C dX5_waters_8 li_1 ?_
    refine aw_sipush C dX5_waters_9 ls_2000 ?_
    refine bw_S3i C dX5_waters_12 kyX5_within lX5_91 ksX5_within rfl rfl (ctX5_within a2 (1 : Int32) (2000 : Int32) h _ rfl) ?_
    refine bw_if_eq (tgt := 27) C dX5_waters_15 (by decide) hF (fun hF => ?_) (fun hF => ?_)
    · refine aw_bipush C dX5_waters_27 lb_m2 ?_
      obtain rfl := Option.some.inj hF
      exact aw_iret C E dX5_waters_29 rfl rfl (bw_ret rfl)
    · refine aw_iload_3 C dX5_waters_18 ?_
      refine aw_iconst C dX5_waters_19 li_0 ?_
      refine aw_iconst C dX5_waters_20 li_3 ?_
      refine bw_S3i C dX5_waters_21 kyX5_within lX5_91 ksX5_within rfl rfl (ctX5_within a3 (0 : Int32) (3 : Int32) h _ rfl) ?_
      refine bw_if_ne (tgt := 30) C dX5_waters_24 (by decide) hF (fun hF => ?_) (fun hF => ?_)
      · refine aw_iload_3 C dX5_waters_30 ?_
        refine bw_if_eq (tgt := 39) C dX5_waters_31 (by decide) hF (fun hF => ?_) (fun hF => ?_)
        · refine aw_iconst C dX5_waters_39 li_1 ?_
          refine aw_goto (tgt := 44) C dX5_waters_40 (by decide) ?_
          refine aw_istore_4 C dX5_waters_44 rfl rfl ?_
          refine aw_iconst C dX5_waters_46 li_0 ?_
          refine aw_istore_5 C dX5_waters_47 rfl rfl ?_
          refine aw_iconst C dX5_waters_49 li_m1 ?_
          refine aw_istore_6 C dX5_waters_50 rfl rfl ?_
          refine aw_lconst C dX5_waters_52 ll_0 ?_
          refine aw_lstore_7 C dX5_waters_53 rfl rfl ?_
          refine aw_aload_0 C dX5_waters_55 ?_
          refine aw_getR C dX5_waters_56 fX5_52 gX5_7 rfl rfl ?_
          refine aw_aload_0 C dX5_waters_59 ?_
          refine aw_getR C dX5_waters_60 fX5_12 gX5_0 rfl rfl ?_
          refine aw_iload_1 C dX5_waters_63 ?_
          obtain ⟨q1, e2, hF⟩ := bw_bind hF
          refine bw_V1l C dX5_waters_64 kyX4_level lX5_144 kiX4_level kvX4_level (aw_rv C rfl rfl) rfl rfl (ctX4_level n a1 h q1 e2) ?_
          obtain ⟨q3, e4, hF⟩ := bw_bind hF
          refine bw_V1v C dX5_waters_67 kyX0_start lX5_158 kiX0_start kvX0_start (aw_rv C rfl rfl) rfl rfl (ctX0_start q1 h q3 e4) ?_
          refine aw_iload_1 C dX5_waters_70 ?_
          refine aw_istore_9 C dX5_waters_71 rfl rfl ?_
          refine aw_loop_rule (fun u73 : (Int32 × Int32 × Int64 × Int32 × aw_H) => AW X 12 73 [.ref 0, .int a1, .int a2, .int a3, .int (1 : Int32), .int u73.1, .int u73.2.1, .long u73.2.2.1, .retAddr 0, .int u73.2.2.2.1, .retAddr 0, .retAddr 0] [] wL wR u73.2.2.2.2 0 0) (fun q => q = y) (fun u73 y73 hF hK => ?_) n ((0 : Int32), (-1 : Int32), (0 : Int64), a1, q3) _ hF rfl
          unfold BX5_waters_73 at hF
          refine aw_iload_9 C dX5_waters_73 ?_
          refine aw_iload_1 C dX5_waters_75 ?_
          refine aw_iload_2 C dX5_waters_76 ?_
          refine aw_iadd C dX5_waters_77 ?_
          refine bw_icmp_ge (tgt := 152) C dX5_waters_78 (by decide) hF (fun hF => ?_) (fun hF => ?_)
          · refine aw_iload_3 C dX5_waters_152 ?_
            refine aw_iconst C dX5_waters_153 li_2 ?_
            refine bw_icmp_ge (tgt := 162) C dX5_waters_154 (by decide) hF (fun hF => ?_) (fun hF => ?_)
            · refine aw_iload_6 C dX5_waters_162 ?_
              obtain rfl := Option.some.inj hF
              have hK : _ = y := hK
              subst hK
              exact aw_iret C E dX5_waters_164 rfl rfl (bw_ret rfl)
            · refine aw_iload_5 C dX5_waters_157 ?_
              refine aw_goto (tgt := 164) C dX5_waters_159 (by decide) ?_
              obtain rfl := Option.some.inj hF
              have hK : _ = y := hK
              subst hK
              exact aw_iret C E dX5_waters_164 rfl rfl (bw_ret rfl)
          · refine aw_aload_0 C dX5_waters_81 ?_
            refine aw_getR C dX5_waters_82 fX5_52 gX5_7 rfl rfl ?_
            refine aw_getL C dX5_waters_85 fX5_162 gX0_0 rfl ?_
            refine aw_lstore_10 C dX5_waters_88 rfl rfl ?_
            refine aw_aload_0 C dX5_waters_90 ?_
            refine aw_getR C dX5_waters_91 fX5_52 gX5_7 rfl rfl ?_
            refine aw_aload_0 C dX5_waters_94 ?_
            refine aw_getR C dX5_waters_95 fX5_12 gX5_0 rfl rfl ?_
            refine aw_iload_9 C dX5_waters_98 ?_
            refine aw_iconst C dX5_waters_100 li_1 ?_
            refine aw_iadd C dX5_waters_101 ?_
            obtain ⟨q5, e6, hF⟩ := bw_bind hF
            refine bw_V1l C dX5_waters_102 kyX4_level lX5_144 kiX4_level kvX4_level (aw_rv C rfl rfl) rfl rfl (ctX4_level n (u73.2.2.2.1 + (1 : Int32)) u73.2.2.2.2 q5 e6) ?_
            obtain ⟨q7, e8, hF⟩ := bw_bind hF
            refine bw_V1i C dX5_waters_105 kyX0_step lX5_164 kiX0_step kvX0_step (aw_rv C rfl rfl) rfl rfl (ctX0_step q5 u73.2.2.2.2 q7 e8) ?_
            refine aw_iload_4 C dX5_waters_108 ?_
            refine bw_icmp_ne (tgt := 146) C dX5_waters_110 (by decide) hF (fun hF => ?_) (fun hF => ?_)
            · refine aw_iinc_9 C dX5_waters_146 li_1 rfl rfl ?_
              refine aw_goto (tgt := 73) C dX5_waters_149 (by decide) ?_
              cases hF
              exact aw_weak (show aw_le [.ref 0, .int a1, .int a2, .int a3, .int (1 : Int32), .int u73.1, .int u73.2.1, .long u73.2.2.1, .retAddr 0, .int (u73.2.2.2.1 + (1 : Int32)), .retAddr 0, .retAddr 0] [.ref 0, .int a1, .int a2, .int a3, .int (1 : Int32), .int u73.1, .int u73.2.1, .long u73.2.2.1, .retAddr 0, .int (u73.2.2.2.1 + (1 : Int32)), .long (u73.2.2.2.2.2 62 0), .retAddr 0] from ⟨Or.inr rfl, Or.inr rfl, Or.inr rfl, Or.inr rfl, Or.inr rfl, Or.inr rfl, Or.inr rfl, Or.inr rfl, Or.inr rfl, Or.inr rfl, Or.inl rfl, Or.inr rfl, trivial⟩) hK
            · refine aw_iinc_5 C dX5_waters_113 li_1 rfl rfl ?_
              refine aw_iload_6 C dX5_waters_116 ?_
              refine aw_iconst C dX5_waters_118 li_m1 ?_
              refine bw_icmp_eq (tgt := 138) C dX5_waters_119 (by decide) hF (fun hF => ?_) (fun hF => ?_)
              · refine aw_iload_9 C dX5_waters_138 ?_
                refine aw_istore_6 C dX5_waters_140 rfl rfl ?_
                refine aw_lload_10 C dX5_waters_142 ?_
                refine aw_lstore_7 C dX5_waters_144 rfl rfl ?_
                refine aw_iinc_9 C dX5_waters_146 li_1 rfl rfl ?_
                refine aw_goto (tgt := 73) C dX5_waters_149 (by decide) ?_
                cases hF
                exact aw_weak (show aw_le [.ref 0, .int a1, .int a2, .int a3, .int (1 : Int32), .int (u73.1 + (1 : Int32)), .int u73.2.2.2.1, .long (u73.2.2.2.2.2 62 0), .retAddr 0, .int (u73.2.2.2.1 + (1 : Int32)), .retAddr 0, .retAddr 0] [.ref 0, .int a1, .int a2, .int a3, .int (1 : Int32), .int (u73.1 + (1 : Int32)), .int u73.2.2.2.1, .long (u73.2.2.2.2.2 62 0), .retAddr 0, .int (u73.2.2.2.1 + (1 : Int32)), .long (u73.2.2.2.2.2 62 0), .retAddr 0] from ⟨Or.inr rfl, Or.inr rfl, Or.inr rfl, Or.inr rfl, Or.inr rfl, Or.inr rfl, Or.inr rfl, Or.inr rfl, Or.inr rfl, Or.inr rfl, Or.inl rfl, Or.inr rfl, trivial⟩) hK
              · refine aw_iload_4 C dX5_waters_122 ?_
                refine aw_i2l C dX5_waters_124 ?_
                refine aw_lload_10 C dX5_waters_125 ?_
                refine aw_lmul C dX5_waters_127 ?_
                refine aw_iload_4 C dX5_waters_128 ?_
                refine aw_i2l C dX5_waters_130 ?_
                refine aw_lload_7 C dX5_waters_131 ?_
                refine aw_lmul C dX5_waters_133 ?_
                refine aw_lcmp C dX5_waters_134 ?_
                refine bw_if_le (tgt := 146) C dX5_waters_135 (by decide) hF (fun hF => ?_) (fun hF => ?_)
                · refine aw_iinc_9 C dX5_waters_146 li_1 rfl rfl ?_
                  refine aw_goto (tgt := 73) C dX5_waters_149 (by decide) ?_
                  cases hF
                  exact aw_weak (show aw_le [.ref 0, .int a1, .int a2, .int a3, .int (1 : Int32), .int (u73.1 + (1 : Int32)), .int u73.2.1, .long u73.2.2.1, .retAddr 0, .int (u73.2.2.2.1 + (1 : Int32)), .retAddr 0, .retAddr 0] [.ref 0, .int a1, .int a2, .int a3, .int (1 : Int32), .int (u73.1 + (1 : Int32)), .int u73.2.1, .long u73.2.2.1, .retAddr 0, .int (u73.2.2.2.1 + (1 : Int32)), .long (u73.2.2.2.2.2 62 0), .retAddr 0] from ⟨Or.inr rfl, Or.inr rfl, Or.inr rfl, Or.inr rfl, Or.inr rfl, Or.inr rfl, Or.inr rfl, Or.inr rfl, Or.inr rfl, Or.inr rfl, Or.inl rfl, Or.inr rfl, trivial⟩) hK
                · refine aw_iload_9 C dX5_waters_138 ?_
                  refine aw_istore_6 C dX5_waters_140 rfl rfl ?_
                  refine aw_lload_10 C dX5_waters_142 ?_
                  refine aw_lstore_7 C dX5_waters_144 rfl rfl ?_
                  refine aw_iinc_9 C dX5_waters_146 li_1 rfl rfl ?_
                  refine aw_goto (tgt := 73) C dX5_waters_149 (by decide) ?_
                  cases hF
                  exact aw_weak (show aw_le [.ref 0, .int a1, .int a2, .int a3, .int (1 : Int32), .int (u73.1 + (1 : Int32)), .int u73.2.2.2.1, .long (u73.2.2.2.2.2 62 0), .retAddr 0, .int (u73.2.2.2.1 + (1 : Int32)), .retAddr 0, .retAddr 0] [.ref 0, .int a1, .int a2, .int a3, .int (1 : Int32), .int (u73.1 + (1 : Int32)), .int u73.2.2.2.1, .long (u73.2.2.2.2.2 62 0), .retAddr 0, .int (u73.2.2.2.1 + (1 : Int32)), .long (u73.2.2.2.2.2 62 0), .retAddr 0] from ⟨Or.inr rfl, Or.inr rfl, Or.inr rfl, Or.inr rfl, Or.inr rfl, Or.inr rfl, Or.inr rfl, Or.inr rfl, Or.inr rfl, Or.inr rfl, Or.inl rfl, Or.inr rfl, trivial⟩) hK
        · refine aw_iload_3 C dX5_waters_34 ?_
          refine aw_iconst C dX5_waters_35 li_2 ?_
          refine bw_icmp_ne (tgt := 43) C dX5_waters_36 (by decide) hF (fun hF => ?_) (fun hF => ?_)
          · refine aw_iconst C dX5_waters_43 li_m1 ?_
            refine aw_istore_4 C dX5_waters_44 rfl rfl ?_
            refine aw_iconst C dX5_waters_46 li_0 ?_
            refine aw_istore_5 C dX5_waters_47 rfl rfl ?_
            refine aw_iconst C dX5_waters_49 li_m1 ?_
            refine aw_istore_6 C dX5_waters_50 rfl rfl ?_
            refine aw_lconst C dX5_waters_52 ll_0 ?_
            refine aw_lstore_7 C dX5_waters_53 rfl rfl ?_
            refine aw_aload_0 C dX5_waters_55 ?_
            refine aw_getR C dX5_waters_56 fX5_52 gX5_7 rfl rfl ?_
            refine aw_aload_0 C dX5_waters_59 ?_
            refine aw_getR C dX5_waters_60 fX5_12 gX5_0 rfl rfl ?_
            refine aw_iload_1 C dX5_waters_63 ?_
            obtain ⟨q9, e10, hF⟩ := bw_bind hF
            refine bw_V1l C dX5_waters_64 kyX4_level lX5_144 kiX4_level kvX4_level (aw_rv C rfl rfl) rfl rfl (ctX4_level n a1 h q9 e10) ?_
            obtain ⟨q11, e12, hF⟩ := bw_bind hF
            refine bw_V1v C dX5_waters_67 kyX0_start lX5_158 kiX0_start kvX0_start (aw_rv C rfl rfl) rfl rfl (ctX0_start q9 h q11 e12) ?_
            refine aw_iload_1 C dX5_waters_70 ?_
            refine aw_istore_9 C dX5_waters_71 rfl rfl ?_
            refine aw_loop_rule (fun u73 : (Int32 × Int32 × Int64 × Int32 × aw_H) => AW X 12 73 [.ref 0, .int a1, .int a2, .int a3, .int (-1 : Int32), .int u73.1, .int u73.2.1, .long u73.2.2.1, .retAddr 0, .int u73.2.2.2.1, .retAddr 0, .retAddr 0] [] wL wR u73.2.2.2.2 0 0) (fun q => q = y) (fun u73 y73 hF hK => ?_) n ((0 : Int32), (-1 : Int32), (0 : Int64), a1, q11) _ hF rfl
            unfold BX5_waters_73' at hF
            refine aw_iload_9 C dX5_waters_73 ?_
            refine aw_iload_1 C dX5_waters_75 ?_
            refine aw_iload_2 C dX5_waters_76 ?_
            refine aw_iadd C dX5_waters_77 ?_
            refine bw_icmp_ge (tgt := 152) C dX5_waters_78 (by decide) hF (fun hF => ?_) (fun hF => ?_)
            · refine aw_iload_3 C dX5_waters_152 ?_
              refine aw_iconst C dX5_waters_153 li_2 ?_
              refine bw_icmp_ge (tgt := 162) C dX5_waters_154 (by decide) hF (fun hF => ?_) (fun hF => ?_)
              · refine aw_iload_6 C dX5_waters_162 ?_
                obtain rfl := Option.some.inj hF
                have hK : _ = y := hK
                subst hK
                exact aw_iret C E dX5_waters_164 rfl rfl (bw_ret rfl)
              · refine aw_iload_5 C dX5_waters_157 ?_
                refine aw_goto (tgt := 164) C dX5_waters_159 (by decide) ?_
                obtain rfl := Option.some.inj hF
                have hK : _ = y := hK
                subst hK
                exact aw_iret C E dX5_waters_164 rfl rfl (bw_ret rfl)
            · refine aw_aload_0 C dX5_waters_81 ?_
              refine aw_getR C dX5_waters_82 fX5_52 gX5_7 rfl rfl ?_
              refine aw_getL C dX5_waters_85 fX5_162 gX0_0 rfl ?_
              refine aw_lstore_10 C dX5_waters_88 rfl rfl ?_
              refine aw_aload_0 C dX5_waters_90 ?_
              refine aw_getR C dX5_waters_91 fX5_52 gX5_7 rfl rfl ?_
              refine aw_aload_0 C dX5_waters_94 ?_
              refine aw_getR C dX5_waters_95 fX5_12 gX5_0 rfl rfl ?_
              refine aw_iload_9 C dX5_waters_98 ?_
              refine aw_iconst C dX5_waters_100 li_1 ?_
              refine aw_iadd C dX5_waters_101 ?_
              obtain ⟨q13, e14, hF⟩ := bw_bind hF
              refine bw_V1l C dX5_waters_102 kyX4_level lX5_144 kiX4_level kvX4_level (aw_rv C rfl rfl) rfl rfl (ctX4_level n (u73.2.2.2.1 + (1 : Int32)) u73.2.2.2.2 q13 e14) ?_
              obtain ⟨q15, e16, hF⟩ := bw_bind hF
              refine bw_V1i C dX5_waters_105 kyX0_step lX5_164 kiX0_step kvX0_step (aw_rv C rfl rfl) rfl rfl (ctX0_step q13 u73.2.2.2.2 q15 e16) ?_
              refine aw_iload_4 C dX5_waters_108 ?_
              refine bw_icmp_ne (tgt := 146) C dX5_waters_110 (by decide) hF (fun hF => ?_) (fun hF => ?_)
              · refine aw_iinc_9 C dX5_waters_146 li_1 rfl rfl ?_
                refine aw_goto (tgt := 73) C dX5_waters_149 (by decide) ?_
                cases hF
                exact aw_weak (show aw_le [.ref 0, .int a1, .int a2, .int a3, .int (-1 : Int32), .int u73.1, .int u73.2.1, .long u73.2.2.1, .retAddr 0, .int (u73.2.2.2.1 + (1 : Int32)), .retAddr 0, .retAddr 0] [.ref 0, .int a1, .int a2, .int a3, .int (-1 : Int32), .int u73.1, .int u73.2.1, .long u73.2.2.1, .retAddr 0, .int (u73.2.2.2.1 + (1 : Int32)), .long (u73.2.2.2.2.2 62 0), .retAddr 0] from ⟨Or.inr rfl, Or.inr rfl, Or.inr rfl, Or.inr rfl, Or.inr rfl, Or.inr rfl, Or.inr rfl, Or.inr rfl, Or.inr rfl, Or.inr rfl, Or.inl rfl, Or.inr rfl, trivial⟩) hK
              · refine aw_iinc_5 C dX5_waters_113 li_1 rfl rfl ?_
                refine aw_iload_6 C dX5_waters_116 ?_
                refine aw_iconst C dX5_waters_118 li_m1 ?_
                refine bw_icmp_eq (tgt := 138) C dX5_waters_119 (by decide) hF (fun hF => ?_) (fun hF => ?_)
                · refine aw_iload_9 C dX5_waters_138 ?_
                  refine aw_istore_6 C dX5_waters_140 rfl rfl ?_
                  refine aw_lload_10 C dX5_waters_142 ?_
                  refine aw_lstore_7 C dX5_waters_144 rfl rfl ?_
                  refine aw_iinc_9 C dX5_waters_146 li_1 rfl rfl ?_
                  refine aw_goto (tgt := 73) C dX5_waters_149 (by decide) ?_
                  cases hF
                  exact aw_weak (show aw_le [.ref 0, .int a1, .int a2, .int a3, .int (-1 : Int32), .int (u73.1 + (1 : Int32)), .int u73.2.2.2.1, .long (u73.2.2.2.2.2 62 0), .retAddr 0, .int (u73.2.2.2.1 + (1 : Int32)), .retAddr 0, .retAddr 0] [.ref 0, .int a1, .int a2, .int a3, .int (-1 : Int32), .int (u73.1 + (1 : Int32)), .int u73.2.2.2.1, .long (u73.2.2.2.2.2 62 0), .retAddr 0, .int (u73.2.2.2.1 + (1 : Int32)), .long (u73.2.2.2.2.2 62 0), .retAddr 0] from ⟨Or.inr rfl, Or.inr rfl, Or.inr rfl, Or.inr rfl, Or.inr rfl, Or.inr rfl, Or.inr rfl, Or.inr rfl, Or.inr rfl, Or.inr rfl, Or.inl rfl, Or.inr rfl, trivial⟩) hK
                · refine aw_iload_4 C dX5_waters_122 ?_
                  refine aw_i2l C dX5_waters_124 ?_
                  refine aw_lload_10 C dX5_waters_125 ?_
                  refine aw_lmul C dX5_waters_127 ?_
                  refine aw_iload_4 C dX5_waters_128 ?_
                  refine aw_i2l C dX5_waters_130 ?_
                  refine aw_lload_7 C dX5_waters_131 ?_
                  refine aw_lmul C dX5_waters_133 ?_
                  refine aw_lcmp C dX5_waters_134 ?_
                  refine bw_if_le (tgt := 146) C dX5_waters_135 (by decide) hF (fun hF => ?_) (fun hF => ?_)
                  · refine aw_iinc_9 C dX5_waters_146 li_1 rfl rfl ?_
                    refine aw_goto (tgt := 73) C dX5_waters_149 (by decide) ?_
                    cases hF
                    exact aw_weak (show aw_le [.ref 0, .int a1, .int a2, .int a3, .int (-1 : Int32), .int (u73.1 + (1 : Int32)), .int u73.2.1, .long u73.2.2.1, .retAddr 0, .int (u73.2.2.2.1 + (1 : Int32)), .retAddr 0, .retAddr 0] [.ref 0, .int a1, .int a2, .int a3, .int (-1 : Int32), .int (u73.1 + (1 : Int32)), .int u73.2.1, .long u73.2.2.1, .retAddr 0, .int (u73.2.2.2.1 + (1 : Int32)), .long (u73.2.2.2.2.2 62 0), .retAddr 0] from ⟨Or.inr rfl, Or.inr rfl, Or.inr rfl, Or.inr rfl, Or.inr rfl, Or.inr rfl, Or.inr rfl, Or.inr rfl, Or.inr rfl, Or.inr rfl, Or.inl rfl, Or.inr rfl, trivial⟩) hK
                  · refine aw_iload_9 C dX5_waters_138 ?_
                    refine aw_istore_6 C dX5_waters_140 rfl rfl ?_
                    refine aw_lload_10 C dX5_waters_142 ?_
                    refine aw_lstore_7 C dX5_waters_144 rfl rfl ?_
                    refine aw_iinc_9 C dX5_waters_146 li_1 rfl rfl ?_
                    refine aw_goto (tgt := 73) C dX5_waters_149 (by decide) ?_
                    cases hF
                    exact aw_weak (show aw_le [.ref 0, .int a1, .int a2, .int a3, .int (-1 : Int32), .int (u73.1 + (1 : Int32)), .int u73.2.2.2.1, .long (u73.2.2.2.2.2 62 0), .retAddr 0, .int (u73.2.2.2.1 + (1 : Int32)), .retAddr 0, .retAddr 0] [.ref 0, .int a1, .int a2, .int a3, .int (-1 : Int32), .int (u73.1 + (1 : Int32)), .int u73.2.2.2.1, .long (u73.2.2.2.2.2 62 0), .retAddr 0, .int (u73.2.2.2.1 + (1 : Int32)), .long (u73.2.2.2.2.2 62 0), .retAddr 0] from ⟨Or.inr rfl, Or.inr rfl, Or.inr rfl, Or.inr rfl, Or.inr rfl, Or.inr rfl, Or.inr rfl, Or.inr rfl, Or.inr rfl, Or.inr rfl, Or.inl rfl, Or.inr rfl, trivial⟩) hK
          · refine aw_iconst C dX5_waters_39 li_1 ?_
            refine aw_goto (tgt := 44) C dX5_waters_40 (by decide) ?_
            refine aw_istore_4 C dX5_waters_44 rfl rfl ?_
            refine aw_iconst C dX5_waters_46 li_0 ?_
            refine aw_istore_5 C dX5_waters_47 rfl rfl ?_
            refine aw_iconst C dX5_waters_49 li_m1 ?_
            refine aw_istore_6 C dX5_waters_50 rfl rfl ?_
            refine aw_lconst C dX5_waters_52 ll_0 ?_
            refine aw_lstore_7 C dX5_waters_53 rfl rfl ?_
            refine aw_aload_0 C dX5_waters_55 ?_
            refine aw_getR C dX5_waters_56 fX5_52 gX5_7 rfl rfl ?_
            refine aw_aload_0 C dX5_waters_59 ?_
            refine aw_getR C dX5_waters_60 fX5_12 gX5_0 rfl rfl ?_
            refine aw_iload_1 C dX5_waters_63 ?_
            obtain ⟨q17, e18, hF⟩ := bw_bind hF
            refine bw_V1l C dX5_waters_64 kyX4_level lX5_144 kiX4_level kvX4_level (aw_rv C rfl rfl) rfl rfl (ctX4_level n a1 h q17 e18) ?_
            obtain ⟨q19, e20, hF⟩ := bw_bind hF
            refine bw_V1v C dX5_waters_67 kyX0_start lX5_158 kiX0_start kvX0_start (aw_rv C rfl rfl) rfl rfl (ctX0_start q17 h q19 e20) ?_
            refine aw_iload_1 C dX5_waters_70 ?_
            refine aw_istore_9 C dX5_waters_71 rfl rfl ?_
            refine aw_loop_rule (fun u73 : (Int32 × Int32 × Int64 × Int32 × aw_H) => AW X 12 73 [.ref 0, .int a1, .int a2, .int a3, .int (1 : Int32), .int u73.1, .int u73.2.1, .long u73.2.2.1, .retAddr 0, .int u73.2.2.2.1, .retAddr 0, .retAddr 0] [] wL wR u73.2.2.2.2 0 0) (fun q => q = y) (fun u73 y73 hF hK => ?_) n ((0 : Int32), (-1 : Int32), (0 : Int64), a1, q19) _ hF rfl
            unfold BX5_waters_73'' at hF
            refine aw_iload_9 C dX5_waters_73 ?_
            refine aw_iload_1 C dX5_waters_75 ?_
            refine aw_iload_2 C dX5_waters_76 ?_
            refine aw_iadd C dX5_waters_77 ?_
            refine bw_icmp_ge (tgt := 152) C dX5_waters_78 (by decide) hF (fun hF => ?_) (fun hF => ?_)
            · refine aw_iload_3 C dX5_waters_152 ?_
              refine aw_iconst C dX5_waters_153 li_2 ?_
              refine bw_icmp_ge (tgt := 162) C dX5_waters_154 (by decide) hF (fun hF => ?_) (fun hF => ?_)
              · refine aw_iload_6 C dX5_waters_162 ?_
                obtain rfl := Option.some.inj hF
                have hK : _ = y := hK
                subst hK
                exact aw_iret C E dX5_waters_164 rfl rfl (bw_ret rfl)
              · refine aw_iload_5 C dX5_waters_157 ?_
                refine aw_goto (tgt := 164) C dX5_waters_159 (by decide) ?_
                obtain rfl := Option.some.inj hF
                have hK : _ = y := hK
                subst hK
                exact aw_iret C E dX5_waters_164 rfl rfl (bw_ret rfl)
            · refine aw_aload_0 C dX5_waters_81 ?_
              refine aw_getR C dX5_waters_82 fX5_52 gX5_7 rfl rfl ?_
              refine aw_getL C dX5_waters_85 fX5_162 gX0_0 rfl ?_
              refine aw_lstore_10 C dX5_waters_88 rfl rfl ?_
              refine aw_aload_0 C dX5_waters_90 ?_
              refine aw_getR C dX5_waters_91 fX5_52 gX5_7 rfl rfl ?_
              refine aw_aload_0 C dX5_waters_94 ?_
              refine aw_getR C dX5_waters_95 fX5_12 gX5_0 rfl rfl ?_
              refine aw_iload_9 C dX5_waters_98 ?_
              refine aw_iconst C dX5_waters_100 li_1 ?_
              refine aw_iadd C dX5_waters_101 ?_
              obtain ⟨q21, e22, hF⟩ := bw_bind hF
              refine bw_V1l C dX5_waters_102 kyX4_level lX5_144 kiX4_level kvX4_level (aw_rv C rfl rfl) rfl rfl (ctX4_level n (u73.2.2.2.1 + (1 : Int32)) u73.2.2.2.2 q21 e22) ?_
              obtain ⟨q23, e24, hF⟩ := bw_bind hF
              refine bw_V1i C dX5_waters_105 kyX0_step lX5_164 kiX0_step kvX0_step (aw_rv C rfl rfl) rfl rfl (ctX0_step q21 u73.2.2.2.2 q23 e24) ?_
              refine aw_iload_4 C dX5_waters_108 ?_
              refine bw_icmp_ne (tgt := 146) C dX5_waters_110 (by decide) hF (fun hF => ?_) (fun hF => ?_)
              · refine aw_iinc_9 C dX5_waters_146 li_1 rfl rfl ?_
                refine aw_goto (tgt := 73) C dX5_waters_149 (by decide) ?_
                cases hF
                exact aw_weak (show aw_le [.ref 0, .int a1, .int a2, .int a3, .int (1 : Int32), .int u73.1, .int u73.2.1, .long u73.2.2.1, .retAddr 0, .int (u73.2.2.2.1 + (1 : Int32)), .retAddr 0, .retAddr 0] [.ref 0, .int a1, .int a2, .int a3, .int (1 : Int32), .int u73.1, .int u73.2.1, .long u73.2.2.1, .retAddr 0, .int (u73.2.2.2.1 + (1 : Int32)), .long (u73.2.2.2.2.2 62 0), .retAddr 0] from ⟨Or.inr rfl, Or.inr rfl, Or.inr rfl, Or.inr rfl, Or.inr rfl, Or.inr rfl, Or.inr rfl, Or.inr rfl, Or.inr rfl, Or.inr rfl, Or.inl rfl, Or.inr rfl, trivial⟩) hK
              · refine aw_iinc_5 C dX5_waters_113 li_1 rfl rfl ?_
                refine aw_iload_6 C dX5_waters_116 ?_
                refine aw_iconst C dX5_waters_118 li_m1 ?_
                refine bw_icmp_eq (tgt := 138) C dX5_waters_119 (by decide) hF (fun hF => ?_) (fun hF => ?_)
                · refine aw_iload_9 C dX5_waters_138 ?_
                  refine aw_istore_6 C dX5_waters_140 rfl rfl ?_
                  refine aw_lload_10 C dX5_waters_142 ?_
                  refine aw_lstore_7 C dX5_waters_144 rfl rfl ?_
                  refine aw_iinc_9 C dX5_waters_146 li_1 rfl rfl ?_
                  refine aw_goto (tgt := 73) C dX5_waters_149 (by decide) ?_
                  cases hF
                  exact aw_weak (show aw_le [.ref 0, .int a1, .int a2, .int a3, .int (1 : Int32), .int (u73.1 + (1 : Int32)), .int u73.2.2.2.1, .long (u73.2.2.2.2.2 62 0), .retAddr 0, .int (u73.2.2.2.1 + (1 : Int32)), .retAddr 0, .retAddr 0] [.ref 0, .int a1, .int a2, .int a3, .int (1 : Int32), .int (u73.1 + (1 : Int32)), .int u73.2.2.2.1, .long (u73.2.2.2.2.2 62 0), .retAddr 0, .int (u73.2.2.2.1 + (1 : Int32)), .long (u73.2.2.2.2.2 62 0), .retAddr 0] from ⟨Or.inr rfl, Or.inr rfl, Or.inr rfl, Or.inr rfl, Or.inr rfl, Or.inr rfl, Or.inr rfl, Or.inr rfl, Or.inr rfl, Or.inr rfl, Or.inl rfl, Or.inr rfl, trivial⟩) hK
                · refine aw_iload_4 C dX5_waters_122 ?_
                  refine aw_i2l C dX5_waters_124 ?_
                  refine aw_lload_10 C dX5_waters_125 ?_
                  refine aw_lmul C dX5_waters_127 ?_
                  refine aw_iload_4 C dX5_waters_128 ?_
                  refine aw_i2l C dX5_waters_130 ?_
                  refine aw_lload_7 C dX5_waters_131 ?_
                  refine aw_lmul C dX5_waters_133 ?_
                  refine aw_lcmp C dX5_waters_134 ?_
                  refine bw_if_le (tgt := 146) C dX5_waters_135 (by decide) hF (fun hF => ?_) (fun hF => ?_)
                  · refine aw_iinc_9 C dX5_waters_146 li_1 rfl rfl ?_
                    refine aw_goto (tgt := 73) C dX5_waters_149 (by decide) ?_
                    cases hF
                    exact aw_weak (show aw_le [.ref 0, .int a1, .int a2, .int a3, .int (1 : Int32), .int (u73.1 + (1 : Int32)), .int u73.2.1, .long u73.2.2.1, .retAddr 0, .int (u73.2.2.2.1 + (1 : Int32)), .retAddr 0, .retAddr 0] [.ref 0, .int a1, .int a2, .int a3, .int (1 : Int32), .int (u73.1 + (1 : Int32)), .int u73.2.1, .long u73.2.2.1, .retAddr 0, .int (u73.2.2.2.1 + (1 : Int32)), .long (u73.2.2.2.2.2 62 0), .retAddr 0] from ⟨Or.inr rfl, Or.inr rfl, Or.inr rfl, Or.inr rfl, Or.inr rfl, Or.inr rfl, Or.inr rfl, Or.inr rfl, Or.inr rfl, Or.inr rfl, Or.inl rfl, Or.inr rfl, trivial⟩) hK
                  · refine aw_iload_9 C dX5_waters_138 ?_
                    refine aw_istore_6 C dX5_waters_140 rfl rfl ?_
                    refine aw_lload_10 C dX5_waters_142 ?_
                    refine aw_lstore_7 C dX5_waters_144 rfl rfl ?_
                    refine aw_iinc_9 C dX5_waters_146 li_1 rfl rfl ?_
                    refine aw_goto (tgt := 73) C dX5_waters_149 (by decide) ?_
                    cases hF
                    exact aw_weak (show aw_le [.ref 0, .int a1, .int a2, .int a3, .int (1 : Int32), .int (u73.1 + (1 : Int32)), .int u73.2.2.2.1, .long (u73.2.2.2.2.2 62 0), .retAddr 0, .int (u73.2.2.2.1 + (1 : Int32)), .retAddr 0, .retAddr 0] [.ref 0, .int a1, .int a2, .int a3, .int (1 : Int32), .int (u73.1 + (1 : Int32)), .int u73.2.2.2.1, .long (u73.2.2.2.2.2 62 0), .retAddr 0, .int (u73.2.2.2.1 + (1 : Int32)), .long (u73.2.2.2.2.2 62 0), .retAddr 0] from ⟨Or.inr rfl, Or.inr rfl, Or.inr rfl, Or.inr rfl, Or.inr rfl, Or.inr rfl, Or.inr rfl, Or.inr rfl, Or.inr rfl, Or.inr rfl, Or.inl rfl, Or.inr rfl, trivial⟩) hK
      · refine aw_bipush C dX5_waters_27 lb_m2 ?_
        obtain rfl := Option.some.inj hF
        exact aw_iret C E dX5_waters_29 rfl rfl (bw_ret rfl)
def BX5_water_67 (n : Nat) (a1 : Int32) (a2 : Int32) (a4 : Int32) (u67 : (Int32 × Int32 × aw_H)) : Option ((Int32 × Int32 × aw_H) ⊕ (Int32 × aw_H)) :=
  (if (a1 + a2) ≤ u67.2.1 then some (Sum.inr ((-1 : Int32), u67.2.2)) else ((FX4_level n (u67.2.1 + (1 : Int32)) u67.2.2).bind (fun q5 => ((FX0_step q5 u67.2.2).bind (fun q7 => (if q7.1 = (-1 : Int32) then (if u67.1 = a4 then some (Sum.inr (u67.2.1, q7.2)) else some (Sum.inl ((u67.1 + (1 : Int32)), (u67.2.1 + (1 : Int32)), q7.2))) else some (Sum.inl (u67.1, (u67.2.1 + (1 : Int32)), q7.2))))))))
def BX5_water_67' (n : Nat) (a1 : Int32) (a2 : Int32) (a4 : Int32) (u67 : (Int32 × Int32 × aw_H)) : Option ((Int32 × Int32 × aw_H) ⊕ (Int32 × aw_H)) :=
  (if (a1 + a2) ≤ u67.2.1 then some (Sum.inr ((-1 : Int32), u67.2.2)) else ((FX4_level n (u67.2.1 + (1 : Int32)) u67.2.2).bind (fun q13 => ((FX0_step q13 u67.2.2).bind (fun q15 => (if q15.1 = (1 : Int32) then (if u67.1 = a4 then some (Sum.inr (u67.2.1, q15.2)) else some (Sum.inl ((u67.1 + (1 : Int32)), (u67.2.1 + (1 : Int32)), q15.2))) else some (Sum.inl (u67.1, (u67.2.1 + (1 : Int32)), q15.2))))))))
def FX5_water (n : Nat) (a1 : Int32) (a2 : Int32) (a3 : Int32) (a4 : Int32) (h : aw_H) : Option (Int32 × aw_H) :=
  (if (FX5_isTick a1) = 0 then some ((-2 : Int32), h) else (if (FX5_within a2 (1 : Int32) (2000 : Int32)) = 0 then some ((-2 : Int32), h) else (if (FX5_within a3 (0 : Int32) (1 : Int32)) = 0 then some ((-2 : Int32), h) else (if 0 ≤ a4 then (if a3 = 0 then ((FX4_level n a1 h).bind (fun q9 => ((FX0_start q9 h).bind (fun q11 => aw_loop (BX5_water_67' n a1 a2 a4) n ((0 : Int32), a1, q11))))) else ((FX4_level n a1 h).bind (fun q1 => ((FX0_start q1 h).bind (fun q3 => aw_loop (BX5_water_67 n a1 a2 a4) n ((0 : Int32), a1, q3)))))) else some ((-2 : Int32), h)))))
set_option maxRecDepth 100000 in
set_option maxHeartbeats 4000000 in
theorem ctX5_water (n : Nat) (a1 : Int32) (a2 : Int32) (a3 : Int32) (a4 : Int32) (h : aw_H) (y : Int32 × aw_H) (hF : FX5_water n a1 a2 a3 a4 h = some y) : Ct 5 0 0 yX5_water cX5_water 8 (some .int) [.ref 0, .int a1, .int a2, .int a3, .int a4] wL wR h (aw_D (some (.int y.1)) y.2) := by
  refine Ct.of (ls0 := [.ref 0, .int a1, .int a2, .int a3, .int a4, .retAddr 0, .retAddr 0, .retAddr 0]) (by decide +kernel) rfl rfl (fun X C E hnm => ?_)
  have C : aw_C X RX5 cX5_water 8 5 0 0 := C
  unfold FX5_water at hF
  refine aw_iload_1 C dX5_water_0 ?_
  refine bw_S1i C dX5_water_1 kyX5_isTick lX5_148 ksX5_isTick rfl rfl (ctX5_isTick a1 h _ rfl) ?_
  refine bw_if_eq (tgt := 32) C dX5_water_4 (by decide) hF (fun hF => ?_) (fun hF => ?_)
  · refine aw_bipush C dX5_water_32 lb_m2 ?_
    obtain rfl := Option.some.inj hF
    exact aw_iret C E dX5_water_34 rfl rfl (bw_ret rfl)
  · refine aw_iload_2 C dX5_water_7 ?_
    refine aw_iconst C dX5_water_8 li_1 ?_
    refine aw_sipush C dX5_water_9 ls_2000 ?_
    refine bw_S3i C dX5_water_12 kyX5_within lX5_91 ksX5_within rfl rfl (ctX5_within a2 (1 : Int32) (2000 : Int32) h _ rfl) ?_
    refine bw_if_eq (tgt := 32) C dX5_water_15 (by decide) hF (fun hF => ?_) (fun hF => ?_)
    · refine aw_bipush C dX5_water_32 lb_m2 ?_
      obtain rfl := Option.some.inj hF
      exact aw_iret C E dX5_water_34 rfl rfl (bw_ret rfl)
    · refine aw_iload_3 C dX5_water_18 ?_
      refine aw_iconst C dX5_water_19 li_0 ?_
      refine aw_iconst C dX5_water_20 li_1 ?_
      refine bw_S3i C dX5_water_21 kyX5_within lX5_91 ksX5_within rfl rfl (ctX5_within a3 (0 : Int32) (1 : Int32) h _ rfl) ?_
      refine bw_if_eq (tgt := 32) C dX5_water_24 (by decide) hF (fun hF => ?_) (fun hF => ?_)
      · refine aw_bipush C dX5_water_32 lb_m2 ?_
        obtain rfl := Option.some.inj hF
        exact aw_iret C E dX5_water_34 rfl rfl (bw_ret rfl)
      · refine aw_iload_4 C dX5_water_27 ?_
        refine bw_if_ge (tgt := 35) C dX5_water_29 (by decide) hF (fun hF => ?_) (fun hF => ?_)
        · refine aw_iload_3 C dX5_water_35 ?_
          refine bw_if_ne (tgt := 43) C dX5_water_36 (by decide) hF (fun hF => ?_) (fun hF => ?_)
          · refine aw_iconst C dX5_water_43 li_m1 ?_
            refine aw_istore_5 C dX5_water_44 rfl rfl ?_
            refine aw_iconst C dX5_water_46 li_0 ?_
            refine aw_istore_6 C dX5_water_47 rfl rfl ?_
            refine aw_aload_0 C dX5_water_49 ?_
            refine aw_getR C dX5_water_50 fX5_52 gX5_7 rfl rfl ?_
            refine aw_aload_0 C dX5_water_53 ?_
            refine aw_getR C dX5_water_54 fX5_12 gX5_0 rfl rfl ?_
            refine aw_iload_1 C dX5_water_57 ?_
            obtain ⟨q1, e2, hF⟩ := bw_bind hF
            refine bw_V1l C dX5_water_58 kyX4_level lX5_144 kiX4_level kvX4_level (aw_rv C rfl rfl) rfl rfl (ctX4_level n a1 h q1 e2) ?_
            obtain ⟨q3, e4, hF⟩ := bw_bind hF
            refine bw_V1v C dX5_water_61 kyX0_start lX5_158 kiX0_start kvX0_start (aw_rv C rfl rfl) rfl rfl (ctX0_start q1 h q3 e4) ?_
            refine aw_iload_1 C dX5_water_64 ?_
            refine aw_istore_7 C dX5_water_65 rfl rfl ?_
            refine aw_weak (show aw_le [.ref 0, .int a1, .int a2, .retAddr 0, .int a4, .int (-1 : Int32), .int (0 : Int32), .int a1] [.ref 0, .int a1, .int a2, .int a3, .int a4, .int (-1 : Int32), .int (0 : Int32), .int a1] from ⟨Or.inr rfl, Or.inr rfl, Or.inr rfl, Or.inl rfl, Or.inr rfl, Or.inr rfl, Or.inr rfl, Or.inr rfl, trivial⟩) ?_
            refine aw_loop_rule (fun u67 : (Int32 × Int32 × aw_H) => AW X 8 67 [.ref 0, .int a1, .int a2, .retAddr 0, .int a4, .int (-1 : Int32), .int u67.1, .int u67.2.1] [] wL wR u67.2.2 0 0) (fun q => q = y) (fun u67 y67 hF hK => ?_) n ((0 : Int32), a1, q3) _ hF rfl
            unfold BX5_water_67 at hF
            refine aw_iload_7 C dX5_water_67 ?_
            refine aw_iload_1 C dX5_water_69 ?_
            refine aw_iload_2 C dX5_water_70 ?_
            refine aw_iadd C dX5_water_71 ?_
            refine bw_icmp_ge (tgt := 117) C dX5_water_72 (by decide) hF (fun hF => ?_) (fun hF => ?_)
            · refine aw_iconst C dX5_water_117 li_m1 ?_
              obtain rfl := Option.some.inj hF
              have hK : _ = y := hK
              subst hK
              exact aw_iret C E dX5_water_118 rfl rfl (bw_ret rfl)
            · refine aw_aload_0 C dX5_water_75 ?_
              refine aw_getR C dX5_water_76 fX5_52 gX5_7 rfl rfl ?_
              refine aw_aload_0 C dX5_water_79 ?_
              refine aw_getR C dX5_water_80 fX5_12 gX5_0 rfl rfl ?_
              refine aw_iload_7 C dX5_water_83 ?_
              refine aw_iconst C dX5_water_85 li_1 ?_
              refine aw_iadd C dX5_water_86 ?_
              obtain ⟨q5, e6, hF⟩ := bw_bind hF
              refine bw_V1l C dX5_water_87 kyX4_level lX5_144 kiX4_level kvX4_level (aw_rv C rfl rfl) rfl rfl (ctX4_level n (u67.2.1 + (1 : Int32)) u67.2.2 q5 e6) ?_
              obtain ⟨q7, e8, hF⟩ := bw_bind hF
              refine bw_V1i C dX5_water_90 kyX0_step lX5_164 kiX0_step kvX0_step (aw_rv C rfl rfl) rfl rfl (ctX0_step q5 u67.2.2 q7 e8) ?_
              refine aw_iload_5 C dX5_water_93 ?_
              refine bw_icmp_ne (tgt := 111) C dX5_water_95 (by decide) hF (fun hF => ?_) (fun hF => ?_)
              · refine aw_iinc_7 C dX5_water_111 li_1 rfl rfl ?_
                refine aw_goto (tgt := 67) C dX5_water_114 (by decide) ?_
                cases hF
                exact hK
              · refine aw_iload_6 C dX5_water_98 ?_
                refine aw_iload_4 C dX5_water_100 ?_
                refine bw_icmp_ne (tgt := 108) C dX5_water_102 (by decide) hF (fun hF => ?_) (fun hF => ?_)
                · refine aw_iinc_6 C dX5_water_108 li_1 rfl rfl ?_
                  refine aw_iinc_7 C dX5_water_111 li_1 rfl rfl ?_
                  refine aw_goto (tgt := 67) C dX5_water_114 (by decide) ?_
                  cases hF
                  exact hK
                · refine aw_iload_7 C dX5_water_105 ?_
                  obtain rfl := Option.some.inj hF
                  have hK : _ = y := hK
                  subst hK
                  exact aw_iret C E dX5_water_107 rfl rfl (bw_ret rfl)
          · refine aw_iconst C dX5_water_39 li_1 ?_
            refine aw_goto (tgt := 44) C dX5_water_40 (by decide) ?_
            refine aw_istore_5 C dX5_water_44 rfl rfl ?_
            refine aw_iconst C dX5_water_46 li_0 ?_
            refine aw_istore_6 C dX5_water_47 rfl rfl ?_
            refine aw_aload_0 C dX5_water_49 ?_
            refine aw_getR C dX5_water_50 fX5_52 gX5_7 rfl rfl ?_
            refine aw_aload_0 C dX5_water_53 ?_
            refine aw_getR C dX5_water_54 fX5_12 gX5_0 rfl rfl ?_
            refine aw_iload_1 C dX5_water_57 ?_
            obtain ⟨q9, e10, hF⟩ := bw_bind hF
            refine bw_V1l C dX5_water_58 kyX4_level lX5_144 kiX4_level kvX4_level (aw_rv C rfl rfl) rfl rfl (ctX4_level n a1 h q9 e10) ?_
            obtain ⟨q11, e12, hF⟩ := bw_bind hF
            refine bw_V1v C dX5_water_61 kyX0_start lX5_158 kiX0_start kvX0_start (aw_rv C rfl rfl) rfl rfl (ctX0_start q9 h q11 e12) ?_
            refine aw_iload_1 C dX5_water_64 ?_
            refine aw_istore_7 C dX5_water_65 rfl rfl ?_
            refine aw_weak (show aw_le [.ref 0, .int a1, .int a2, .retAddr 0, .int a4, .int (1 : Int32), .int (0 : Int32), .int a1] [.ref 0, .int a1, .int a2, .int a3, .int a4, .int (1 : Int32), .int (0 : Int32), .int a1] from ⟨Or.inr rfl, Or.inr rfl, Or.inr rfl, Or.inl rfl, Or.inr rfl, Or.inr rfl, Or.inr rfl, Or.inr rfl, trivial⟩) ?_
            refine aw_loop_rule (fun u67 : (Int32 × Int32 × aw_H) => AW X 8 67 [.ref 0, .int a1, .int a2, .retAddr 0, .int a4, .int (1 : Int32), .int u67.1, .int u67.2.1] [] wL wR u67.2.2 0 0) (fun q => q = y) (fun u67 y67 hF hK => ?_) n ((0 : Int32), a1, q11) _ hF rfl
            unfold BX5_water_67' at hF
            refine aw_iload_7 C dX5_water_67 ?_
            refine aw_iload_1 C dX5_water_69 ?_
            refine aw_iload_2 C dX5_water_70 ?_
            refine aw_iadd C dX5_water_71 ?_
            refine bw_icmp_ge (tgt := 117) C dX5_water_72 (by decide) hF (fun hF => ?_) (fun hF => ?_)
            · refine aw_iconst C dX5_water_117 li_m1 ?_
              obtain rfl := Option.some.inj hF
              have hK : _ = y := hK
              subst hK
              exact aw_iret C E dX5_water_118 rfl rfl (bw_ret rfl)
            · refine aw_aload_0 C dX5_water_75 ?_
              refine aw_getR C dX5_water_76 fX5_52 gX5_7 rfl rfl ?_
              refine aw_aload_0 C dX5_water_79 ?_
              refine aw_getR C dX5_water_80 fX5_12 gX5_0 rfl rfl ?_
              refine aw_iload_7 C dX5_water_83 ?_
              refine aw_iconst C dX5_water_85 li_1 ?_
              refine aw_iadd C dX5_water_86 ?_
              obtain ⟨q13, e14, hF⟩ := bw_bind hF
              refine bw_V1l C dX5_water_87 kyX4_level lX5_144 kiX4_level kvX4_level (aw_rv C rfl rfl) rfl rfl (ctX4_level n (u67.2.1 + (1 : Int32)) u67.2.2 q13 e14) ?_
              obtain ⟨q15, e16, hF⟩ := bw_bind hF
              refine bw_V1i C dX5_water_90 kyX0_step lX5_164 kiX0_step kvX0_step (aw_rv C rfl rfl) rfl rfl (ctX0_step q13 u67.2.2 q15 e16) ?_
              refine aw_iload_5 C dX5_water_93 ?_
              refine bw_icmp_ne (tgt := 111) C dX5_water_95 (by decide) hF (fun hF => ?_) (fun hF => ?_)
              · refine aw_iinc_7 C dX5_water_111 li_1 rfl rfl ?_
                refine aw_goto (tgt := 67) C dX5_water_114 (by decide) ?_
                cases hF
                exact hK
              · refine aw_iload_6 C dX5_water_98 ?_
                refine aw_iload_4 C dX5_water_100 ?_
                refine bw_icmp_ne (tgt := 108) C dX5_water_102 (by decide) hF (fun hF => ?_) (fun hF => ?_)
                · refine aw_iinc_6 C dX5_water_108 li_1 rfl rfl ?_
                  refine aw_iinc_7 C dX5_water_111 li_1 rfl rfl ?_
                  refine aw_goto (tgt := 67) C dX5_water_114 (by decide) ?_
                  cases hF
                  exact hK
                · refine aw_iload_7 C dX5_water_105 ?_
                  obtain rfl := Option.some.inj hF
                  have hK : _ = y := hK
                  subst hK
                  exact aw_iret C E dX5_water_107 rfl rfl (bw_ret rfl)
        · refine aw_bipush C dX5_water_32 lb_m2 ?_
          obtain rfl := Option.some.inj hF
          exact aw_iret C E dX5_water_34 rfl rfl (bw_ret rfl)
def FX5_isSheet (a1 : Int32) : Int32 :=
  (FX5_within a1 (0 : Int32) (3 : Int32))
set_option maxRecDepth 100000 in
set_option maxHeartbeats 4000000 in
theorem ctX5_isSheet (a1 : Int32) (h : aw_H) (y : Int32) (hF : FX5_isSheet a1 = y) : Ct 1 0 0 yX5_isSheet cX5_isSheet 1 (some .boolean) [.int a1] wL wR h (aw_D (some (.int y)) h) := by
  refine Ct.of (ls0 := [.int a1]) (by decide +kernel) rfl rfl (fun X C E hnm => ?_)
  have C : aw_C X RX5 cX5_isSheet 1 1 0 0 := C
  unfold FX5_isSheet at hF
  refine aw_iload_0 C dX5_isSheet_0 ?_
  refine aw_iconst C dX5_isSheet_1 li_0 ?_
  refine aw_iconst C dX5_isSheet_2 li_3 ?_
  refine bw_S3i C dX5_isSheet_3 kyX5_within lX5_91 ksX5_within rfl rfl (ctX5_within a1 (0 : Int32) (3 : Int32) h _ rfl) ?_
  subst hF
  exact aw_zret C E (aw_nz (bX5_within a1 (0 : Int32) (3 : Int32))) dX5_isSheet_6 rfl rfl (bw_ret rfl)
theorem bX5_isSheet (a1 : Int32) : FX5_isSheet a1 = 0 ∨ FX5_isSheet a1 = 1 := by
  unfold FX5_isSheet
  repeat' split
  all_goals first | exact Or.inl rfl | exact Or.inr rfl | exact bX5_within _ _ _
def BX5_firstOtherwise_2 (n : Nat) (a1 : Nat) (a2 : Int32) (h : aw_H) (u2 : Int32) : Option (Int32 ⊕ Int32) :=
  (if (h.1 a1 2) ≤ u2 then some (Sum.inr (-1 : Int32)) else (if aw_inb u2 40 = true then ((FX4_level n (a2 + u2) h).bind (fun q2 => (if (lg_cmp (h.2 (a1 + 1) (u2).toNatClampNeg) q2) = 0 then some (Sum.inl (u2 + (1 : Int32))) else some (Sum.inr u2)))) else none))
def FX5_firstOtherwise (n : Nat) (a1 : Nat) (a2 : Int32) (h : aw_H) : Option (Int32) :=
  aw_loop (BX5_firstOtherwise_2 n a1 a2 h) n (0 : Int32)
set_option maxRecDepth 100000 in
set_option maxHeartbeats 4000000 in
theorem ctX5_firstOtherwise (n : Nat) (a1 : Nat) (a2 : Int32) (h : aw_H) (f1 : aw_isS a1 = true) (y : Int32) (hF : FX5_firstOtherwise n a1 a2 h = some y) : Ct 5 0 0 yX5_firstOtherwise cX5_firstOtherwise 4 (some .int) [.ref 0, .ref a1, .int a2] wL wR h (aw_D (some (.int y)) h) := by
  refine Ct.of (ls0 := [.ref 0, .ref a1, .int a2, .retAddr 0]) (by decide +kernel) rfl rfl (fun X C E hnm => ?_)
  have C : aw_C X RX5 cX5_firstOtherwise 4 5 0 0 := C
  unfold FX5_firstOtherwise at hF
  refine aw_iconst C dX5_firstOtherwise_0 li_0 ?_
  refine aw_istore_3 C dX5_firstOtherwise_1 rfl rfl ?_
  refine aw_loop_rule (fun u2 : Int32 => AW X 4 2 [.ref 0, .ref a1, .int a2, .int u2] [] wL wR h 0 0) (fun q => q = y) (fun u2 y2 hF hK => ?_) n (0 : Int32) _ hF rfl
  unfold BX5_firstOtherwise_2 at hF
  refine aw_iload_3 C dX5_firstOtherwise_2 ?_
  refine aw_aload_1 C dX5_firstOtherwise_3 ?_
  refine aw_getI C dX5_firstOtherwise_4 fX5_287 gX1_2 (aw_s1 f1) ?_
  refine bw_icmp_ge (tgt := 38) C dX5_firstOtherwise_7 (by decide) hF (fun hF => ?_) (fun hF => ?_)
  · refine aw_iconst C dX5_firstOtherwise_38 li_m1 ?_
    obtain rfl := Option.some.inj hF
    have hK : _ = y := hK
    subst hK
    exact aw_iret C E dX5_firstOtherwise_39 rfl rfl (bw_ret rfl)
  · refine aw_aload_1 C dX5_firstOtherwise_10 ?_
    refine aw_getR C dX5_firstOtherwise_11 fX5_268 gX1_0 (aw_s1 f1) (aw_sr0 f1) ?_
    refine aw_iload_3 C dX5_firstOtherwise_14 ?_
    obtain ⟨s1, hF⟩ := bw_side hF
    refine aw_lald C dX5_firstOtherwise_15 (aw_sa0 f1) (aw_ix s1) ?_
    refine aw_aload_0 C dX5_firstOtherwise_16 ?_
    refine aw_getR C dX5_firstOtherwise_17 fX5_12 gX5_0 rfl rfl ?_
    refine aw_iload_2 C dX5_firstOtherwise_20 ?_
    refine aw_iload_3 C dX5_firstOtherwise_21 ?_
    refine aw_iadd C dX5_firstOtherwise_22 ?_
    obtain ⟨q2, e3, hF⟩ := bw_bind hF
    refine bw_V1l C dX5_firstOtherwise_23 kyX4_level lX5_144 kiX4_level kvX4_level (aw_rv C rfl rfl) rfl rfl (ctX4_level n (a2 + u2) h q2 e3) ?_
    refine aw_lcmp C dX5_firstOtherwise_26 ?_
    refine bw_if_eq (tgt := 32) C dX5_firstOtherwise_27 (by decide) hF (fun hF => ?_) (fun hF => ?_)
    · refine aw_iinc_3 C dX5_firstOtherwise_32 li_1 rfl rfl ?_
      refine aw_goto (tgt := 2) C dX5_firstOtherwise_35 (by decide) ?_
      cases hF
      exact hK
    · refine aw_iload_3 C dX5_firstOtherwise_30 ?_
      obtain rfl := Option.some.inj hF
      have hK : _ = y := hK
      subst hK
      exact aw_iret C E dX5_firstOtherwise_31 rfl rfl (bw_ret rfl)
def BX5_think_11 (n : Nat) (a1 : Nat) (a2 : Int32) (a3 : Int32) (u11 : (Int32 × aw_H)) : Option ((Int32 × aw_H) ⊕ aw_H) :=
  (if a3 ≤ u11.1 then some (Sum.inr u11.2) else (if (201 : Int32) ≤ u11.1 then some (Sum.inr u11.2) else ((FX4_level n (a2 + u11.1) u11.2).bind (fun q3 => ((FX3_swing a1 (a2 + u11.1) u11.2).bind (fun q5 => (if aw_inb u11.1 201 = true then some (Sum.inl ((u11.1 + (1 : Int32)), (aw_sL u11.2 61 (u11.1).toNatClampNeg (q3 - q5)))) else none)))))))
def FX5_think (n : Nat) (a1 : Nat) (a2 : Int32) (a3 : Int32) (h : aw_H) : Option (aw_H) :=
  ((FX3_become 57 a1 h).bind (fun q1 => aw_loop (BX5_think_11 n a1 a2 a3) n ((0 : Int32), q1)))
set_option maxRecDepth 100000 in
set_option maxHeartbeats 4000000 in
theorem ctX5_think (n : Nat) (a1 : Nat) (a2 : Int32) (a3 : Int32) (h : aw_H) (f1 : aw_isW a1 = true) (y : aw_H) (hF : FX5_think n a1 a2 a3 h = some y) : Ct 5 0 0 yX5_think cX5_think 5 none [.ref 0, .ref a1, .int a2, .int a3] wL wR h (aw_D (none) y) := by
  refine Ct.of (ls0 := [.ref 0, .ref a1, .int a2, .int a3, .retAddr 0]) (by decide +kernel) rfl rfl (fun X C E hnm => ?_)
  have C : aw_C X RX5 cX5_think 5 5 0 0 := C
  unfold FX5_think at hF
  refine aw_aload_0 C dX5_think_0 ?_
  refine aw_getR C dX5_think_1 fX5_41 gX5_5 rfl rfl ?_
  refine aw_aload_1 C dX5_think_4 ?_
  obtain ⟨q1, e2, hF⟩ := bw_bind hF
  refine bw_V1v C dX5_think_5 kyX3_become lX5_284 kiX3_become kvX3_become (aw_rv C rfl rfl) rfl rfl (ctX3_become 57 a1 h rfl f1 q1 e2) ?_
  refine aw_iconst C dX5_think_8 li_0 ?_
  refine aw_istore_4 C dX5_think_9 rfl rfl ?_
  refine aw_loop_rule (fun u11 : (Int32 × aw_H) => AW X 5 11 [.ref 0, .ref a1, .int a2, .int a3, .int u11.1] [] wL wR u11.2 0 0) (fun q => q = y) (fun u11 y11 hF hK => ?_) n ((0 : Int32), q1) _ hF rfl
  unfold BX5_think_11 at hF
  refine aw_iload_4 C dX5_think_11 ?_
  refine aw_iload_3 C dX5_think_13 ?_
  refine bw_icmp_ge (tgt := 60) C dX5_think_14 (by decide) hF (fun hF => ?_) (fun hF => ?_)
  · obtain rfl := Option.some.inj hF
    have hK : _ = y := hK
    subst hK
    exact aw_vret C E dX5_think_60 rfl rfl (bw_ret rfl)
  · refine aw_iload_4 C dX5_think_17 ?_
    refine aw_aload_0 C dX5_think_19 ?_
    refine aw_getR C dX5_think_20 fX5_45 gX5_6 rfl rfl ?_
    refine aw_alen (t := 1) (v := 201) C dX5_think_23 (by decide) rfl (by decide) ?_
    refine bw_icmp_ge (tgt := 60) C dX5_think_24 (by decide) hF (fun hF => ?_) (fun hF => ?_)
    · obtain rfl := Option.some.inj hF
      have hK : _ = y := hK
      subst hK
      exact aw_vret C E dX5_think_60 rfl rfl (bw_ret rfl)
    · refine aw_aload_0 C dX5_think_27 ?_
      refine aw_getR C dX5_think_28 fX5_45 gX5_6 rfl rfl ?_
      refine aw_iload_4 C dX5_think_31 ?_
      refine aw_aload_0 C dX5_think_33 ?_
      refine aw_getR C dX5_think_34 fX5_12 gX5_0 rfl rfl ?_
      refine aw_iload_2 C dX5_think_37 ?_
      refine aw_iload_4 C dX5_think_38 ?_
      refine aw_iadd C dX5_think_40 ?_
      obtain ⟨q3, e4, hF⟩ := bw_bind hF
      refine bw_V1l C dX5_think_41 kyX4_level lX5_144 kiX4_level kvX4_level (aw_rv C rfl rfl) rfl rfl (ctX4_level n (a2 + u11.1) u11.2 q3 e4) ?_
      refine aw_aload_1 C dX5_think_44 ?_
      refine aw_iload_2 C dX5_think_45 ?_
      refine aw_iload_4 C dX5_think_46 ?_
      refine aw_iadd C dX5_think_48 ?_
      obtain ⟨q5, e6, hF⟩ := bw_bind hF
      refine bw_V1l C dX5_think_49 kyX3_swing lX5_151 kiX3_swing kvX3_swing (aw_rv C (aw_w1 f1) rfl) rfl rfl (ctX3_swing a1 (a2 + u11.1) u11.2 f1 q5 e6) ?_
      refine aw_lsub C dX5_think_52 ?_
      obtain ⟨s7, hF⟩ := bw_side hF
      refine aw_last C dX5_think_53 rfl (aw_ix s7) ?_
      refine aw_iinc_4 C dX5_think_54 li_1 rfl rfl ?_
      refine aw_goto (tgt := 11) C dX5_think_57 (by decide) ?_
      cases hF
      exact hK
def BX5_isAllSo_2 (a1 : Nat) (a2 : Int32) (h : aw_H) (u2 : Int32) : Option (Int32 ⊕ Int32) :=
  (if (h.1 a1 2) ≤ u2 then some (Sum.inr (1 : Int32)) else (if (201 : Int32) ≤ u2 then some (Sum.inr (1 : Int32)) else (if aw_inb u2 40 = true then (if aw_inb u2 201 = true then ((FX3_swing 57 (a2 + u2) h).bind (fun q3 => (if (lg_cmp (h.2 (a1 + 1) (u2).toNatClampNeg) ((h.2 61 (u2).toNatClampNeg) + q3)) = 0 then some (Sum.inl (u2 + (1 : Int32))) else some (Sum.inr (0 : Int32))))) else none) else none)))
def FX5_isAllSo (n : Nat) (a1 : Nat) (a2 : Int32) (h : aw_H) : Option (Int32) :=
  aw_loop (BX5_isAllSo_2 a1 a2 h) n (0 : Int32)
set_option maxRecDepth 100000 in
set_option maxHeartbeats 4000000 in
theorem ctX5_isAllSo (n : Nat) (a1 : Nat) (a2 : Int32) (h : aw_H) (f1 : aw_isS a1 = true) (y : Int32) (hF : FX5_isAllSo n a1 a2 h = some y) : Ct 4 0 0 yX5_isAllSo cX5_isAllSo 4 (some .boolean) [.ref 0, .ref a1, .int a2] wL wR h (aw_D (some (.int y)) h) := by
  refine Ct.of (ls0 := [.ref 0, .ref a1, .int a2, .retAddr 0]) (by decide +kernel) rfl rfl (fun X C E hnm => ?_)
  have C : aw_C X RX5 cX5_isAllSo 4 4 0 0 := C
  unfold FX5_isAllSo at hF
  refine aw_iconst C dX5_isAllSo_0 li_0 ?_
  refine aw_istore_3 C dX5_isAllSo_1 rfl rfl ?_
  refine aw_loop_rule (fun u2 : Int32 => AW X 4 2 [.ref 0, .ref a1, .int a2, .int u2] [] wL wR h 0 0) (fun q => q = y) (fun u2 y2 hF hK => ?_) n (0 : Int32) _ hF rfl
  unfold BX5_isAllSo_2 at hF
  refine aw_iload_3 C dX5_isAllSo_2 ?_
  refine aw_aload_1 C dX5_isAllSo_3 ?_
  refine aw_getI C dX5_isAllSo_4 fX5_287 gX1_2 (aw_s1 f1) ?_
  refine bw_icmp_ge (tgt := 54) C dX5_isAllSo_7 (by decide) hF (fun hF => ?_) (fun hF => ?_)
  · refine aw_iconst C dX5_isAllSo_54 li_1 ?_
    obtain rfl := Option.some.inj hF
    have hK : _ = y := hK
    subst hK
    exact aw_zret C E rfl dX5_isAllSo_55 rfl rfl (bw_ret rfl)
  · refine aw_iload_3 C dX5_isAllSo_10 ?_
    refine aw_aload_0 C dX5_isAllSo_11 ?_
    refine aw_getR C dX5_isAllSo_12 fX5_45 gX5_6 rfl rfl ?_
    refine aw_alen (t := 1) (v := 201) C dX5_isAllSo_15 (by decide) rfl (by decide) ?_
    refine bw_icmp_ge (tgt := 54) C dX5_isAllSo_16 (by decide) hF (fun hF => ?_) (fun hF => ?_)
    · refine aw_iconst C dX5_isAllSo_54 li_1 ?_
      obtain rfl := Option.some.inj hF
      have hK : _ = y := hK
      subst hK
      exact aw_zret C E rfl dX5_isAllSo_55 rfl rfl (bw_ret rfl)
    · refine aw_aload_1 C dX5_isAllSo_19 ?_
      refine aw_getR C dX5_isAllSo_20 fX5_268 gX1_0 (aw_s1 f1) (aw_sr0 f1) ?_
      refine aw_iload_3 C dX5_isAllSo_23 ?_
      obtain ⟨s1, hF⟩ := bw_side hF
      refine aw_lald C dX5_isAllSo_24 (aw_sa0 f1) (aw_ix s1) ?_
      refine aw_aload_0 C dX5_isAllSo_25 ?_
      refine aw_getR C dX5_isAllSo_26 fX5_45 gX5_6 rfl rfl ?_
      refine aw_iload_3 C dX5_isAllSo_29 ?_
      obtain ⟨s2, hF⟩ := bw_side hF
      refine aw_lald C dX5_isAllSo_30 rfl (aw_ix s2) ?_
      refine aw_aload_0 C dX5_isAllSo_31 ?_
      refine aw_getR C dX5_isAllSo_32 fX5_41 gX5_5 rfl rfl ?_
      refine aw_iload_2 C dX5_isAllSo_35 ?_
      refine aw_iload_3 C dX5_isAllSo_36 ?_
      refine aw_iadd C dX5_isAllSo_37 ?_
      obtain ⟨q3, e4, hF⟩ := bw_bind hF
      refine bw_V1l C dX5_isAllSo_38 kyX3_swing lX5_151 kiX3_swing kvX3_swing (aw_rv C rfl rfl) rfl rfl (ctX3_swing 57 (a2 + u2) h rfl q3 e4) ?_
      refine aw_ladd C dX5_isAllSo_41 ?_
      refine aw_lcmp C dX5_isAllSo_42 ?_
      refine bw_if_eq (tgt := 48) C dX5_isAllSo_43 (by decide) hF (fun hF => ?_) (fun hF => ?_)
      · refine aw_iinc_3 C dX5_isAllSo_48 li_1 rfl rfl ?_
        refine aw_goto (tgt := 2) C dX5_isAllSo_51 (by decide) ?_
        cases hF
        exact hK
      · refine aw_iconst C dX5_isAllSo_46 li_0 ?_
        obtain rfl := Option.some.inj hF
        have hK : _ = y := hK
        subst hK
        exact aw_zret C E rfl dX5_isAllSo_47 rfl rfl (bw_ret rfl)
def BX5_wrongBy_46 (n : Nat) (a1 : Int32) (a2 : Nat) (a3 : Int32) (u12 : (Int32 × aw_H)) (u46 : (Int32 × aw_H)) : Option ((Int32 × aw_H) ⊕ ((Int32 × aw_H) ⊕ (Int32 × aw_H))) :=
  (if ((aw_ro 0 (a1).toNatClampNeg) + (1 : Int32)) ≤ u46.1 then some (Sum.inr (Sum.inl ((u12.1 + (1 : Int32)), u46.2))) else (if aw_inb a1 4 = true then ((FX5_isAllSo n a2 a3 (aw_sI u46.2 (57 + 1) (a1).toNatClampNeg u46.1)).bind (fun q6 => (if q6 = 0 then some (Sum.inl ((u46.1 + (1 : Int32)), (aw_sI u46.2 (57 + 1) (a1).toNatClampNeg u46.1))) else some (Sum.inr (Sum.inr (((((aw_ro 0 (a1).toNatClampNeg) + (1 : Int32)) * u12.1) + u46.1), (aw_sI u46.2 (57 + 1) (a1).toNatClampNeg u46.1))))))) else none))
def BX5_wrongBy_12 (n : Nat) (a1 : Int32) (a2 : Nat) (a3 : Int32) (u12 : (Int32 × aw_H)) : Option ((Int32 × aw_H) ⊕ (Int32 × aw_H)) :=
  (if (u12.2.1 1 1) ≤ u12.1 then some (Sum.inr ((-1 : Int32), u12.2)) else (if aw_inb u12.1 6 = true then ((FX5_think n (3 + 4 * (u12.1).toNatClampNeg) a3 (u12.2.1 a2 2) u12.2).bind (fun q3 => aw_loop (BX5_wrongBy_46 n a1 a2 a3 u12) n ((0 : Int32), q3))) else none))
def FX5_wrongBy (n : Nat) (a1 : Int32) (a2 : Nat) (a3 : Int32) (h : aw_H) : Option (Int32 × aw_H) :=
  (if aw_inb a1 4 = true then aw_loop (BX5_wrongBy_12 n a1 a2 a3) n ((0 : Int32), h) else none)
set_option maxRecDepth 100000 in
set_option maxHeartbeats 4000000 in
theorem ctX5_wrongBy (n : Nat) (a1 : Int32) (a2 : Nat) (a3 : Int32) (h : aw_H) (f2 : aw_isS a2 = true) (y : Int32 × aw_H) (hF : FX5_wrongBy n a1 a2 a3 h = some y) : Ct 6 0 0 yX5_wrongBy cX5_wrongBy 7 (some .int) [.ref 0, .int a1, .ref a2, .int a3] wL wR h (aw_D (some (.int y.1)) y.2) := by
  refine Ct.of (ls0 := [.ref 0, .int a1, .ref a2, .int a3, .retAddr 0, .retAddr 0, .retAddr 0]) (by decide +kernel) rfl rfl (fun X C E hnm => ?_)
  have C : aw_C X RX5 cX5_wrongBy 7 6 0 0 := C
  unfold FX5_wrongBy at hF
  refine aw_gets (t := 0) C dX5_wrongBy_0 (by decide) fX5_190 ?_
  refine aw_iload_1 C dX5_wrongBy_3 ?_
  obtain ⟨s1, hF⟩ := bw_side hF
  refine aw_tald (t := 0) C dX5_wrongBy_4 (by decide) (aw_ix s1) ?_
  refine aw_iconst C dX5_wrongBy_5 li_1 ?_
  refine aw_iadd C dX5_wrongBy_6 ?_
  refine aw_istore_4 C dX5_wrongBy_7 rfl rfl ?_
  refine aw_iconst C dX5_wrongBy_9 li_0 ?_
  refine aw_istore_5 C dX5_wrongBy_10 rfl rfl ?_
  refine aw_loop_rule (fun u12 : (Int32 × aw_H) => AW X 7 12 [.ref 0, .int a1, .ref a2, .int a3, .int ((aw_ro 0 (a1).toNatClampNeg) + (1 : Int32)), .int u12.1, .retAddr 0] [] wL wR u12.2 0 0) (fun q => q = y) (fun u12 y12 hF hK => ?_) n ((0 : Int32), h) _ hF rfl
  unfold BX5_wrongBy_12 at hF
  refine aw_iload_5 C dX5_wrongBy_12 ?_
  refine aw_aload_0 C dX5_wrongBy_14 ?_
  refine aw_getR C dX5_wrongBy_15 fX5_12 gX5_0 rfl rfl ?_
  refine aw_getI C dX5_wrongBy_18 fX5_65 gX4_1 rfl ?_
  refine bw_icmp_ge (tgt := 94) C dX5_wrongBy_21 (by decide) hF (fun hF => ?_) (fun hF => ?_)
  · refine aw_iconst C dX5_wrongBy_94 li_m1 ?_
    obtain rfl := Option.some.inj hF
    have hK : _ = y := hK
    subst hK
    exact aw_iret C E dX5_wrongBy_95 rfl rfl (bw_ret rfl)
  · refine aw_aload_0 C dX5_wrongBy_24 ?_
    refine aw_aload_0 C dX5_wrongBy_25 ?_
    refine aw_getR C dX5_wrongBy_26 fX5_12 gX5_0 rfl rfl ?_
    refine aw_getR C dX5_wrongBy_29 fX5_288 gX4_0 rfl rfl ?_
    refine aw_iload_5 C dX5_wrongBy_32 ?_
    obtain ⟨s2, hF⟩ := bw_side hF
    refine aw_aald (t := 0) C dX5_wrongBy_34 (by decide) rfl (aw_ix s2) (aw_wh s2).1 ?_
    refine aw_iload_3 C dX5_wrongBy_35 ?_
    refine aw_aload_2 C dX5_wrongBy_36 ?_
    refine aw_getI C dX5_wrongBy_37 fX5_287 gX1_2 (aw_s1 f2) ?_
    obtain ⟨q3, e4, hF⟩ := bw_bind hF
    refine bw_V3v C dX5_wrongBy_40 kyX5_think lX5_186 kiX5_think kvX5_think (aw_rv C rfl rfl) rfl rfl (ctX5_think n (3 + 4 * (u12.1).toNatClampNeg) a3 (u12.2.1 a2 2) u12.2 (aw_wh s2).2 q3 e4) ?_
    refine aw_iconst C dX5_wrongBy_43 li_0 ?_
    refine aw_istore_6 C dX5_wrongBy_44 rfl rfl ?_
    refine aw_loop_rule (fun u46 : (Int32 × aw_H) => AW X 7 46 [.ref 0, .int a1, .ref a2, .int a3, .int ((aw_ro 0 (a1).toNatClampNeg) + (1 : Int32)), .int u12.1, .int u46.1] [] wL wR u46.2 0 0) _ (fun u46 y46 hF hK => ?_) n ((0 : Int32), q3) _ hF hK
    unfold BX5_wrongBy_46 at hF
    refine aw_iload_6 C dX5_wrongBy_46 ?_
    refine aw_iload_4 C dX5_wrongBy_48 ?_
    refine bw_icmp_ge (tgt := 88) C dX5_wrongBy_50 (by decide) hF (fun hF => ?_) (fun hF => ?_)
    · refine aw_iinc_5 C dX5_wrongBy_88 li_1 rfl rfl ?_
      refine aw_goto (tgt := 12) C dX5_wrongBy_91 (by decide) ?_
      cases hF
      exact aw_weak (show aw_le [.ref 0, .int a1, .ref a2, .int a3, .int ((aw_ro 0 (a1).toNatClampNeg) + (1 : Int32)), .int (u12.1 + (1 : Int32)), .retAddr 0] [.ref 0, .int a1, .ref a2, .int a3, .int ((aw_ro 0 (a1).toNatClampNeg) + (1 : Int32)), .int (u12.1 + (1 : Int32)), .int u46.1] from ⟨Or.inr rfl, Or.inr rfl, Or.inr rfl, Or.inr rfl, Or.inr rfl, Or.inr rfl, Or.inl rfl, trivial⟩) hK
    · refine aw_aload_0 C dX5_wrongBy_53 ?_
      refine aw_getR C dX5_wrongBy_54 fX5_41 gX5_5 rfl rfl ?_
      refine aw_getR C dX5_wrongBy_57 fX5_102 gX3_0 rfl rfl ?_
      refine aw_iload_1 C dX5_wrongBy_60 ?_
      refine aw_iload_6 C dX5_wrongBy_61 ?_
      obtain ⟨s5, hF⟩ := bw_side hF
      refine aw_iast C dX5_wrongBy_63 rfl (aw_ix s5) ?_
      refine aw_aload_0 C dX5_wrongBy_64 ?_
      refine aw_aload_2 C dX5_wrongBy_65 ?_
      refine aw_iload_3 C dX5_wrongBy_66 ?_
      obtain ⟨q6, e7, hF⟩ := bw_bind hF
      refine bw_V2i C dX5_wrongBy_67 kyX5_isAllSo lX5_292 kiX5_isAllSo kvX5_isAllSo (aw_rv C rfl rfl) rfl rfl (ctX5_isAllSo n a2 a3 (aw_sI u46.2 (57 + 1) (a1).toNatClampNeg u46.1) f2 q6 e7) ?_
      refine bw_if_eq (tgt := 82) C dX5_wrongBy_70 (by decide) hF (fun hF => ?_) (fun hF => ?_)
      · refine aw_iinc_6 C dX5_wrongBy_82 li_1 rfl rfl ?_
        refine aw_goto (tgt := 46) C dX5_wrongBy_85 (by decide) ?_
        cases hF
        exact hK
      · refine aw_iload_4 C dX5_wrongBy_73 ?_
        refine aw_iload_5 C dX5_wrongBy_75 ?_
        refine aw_imul C dX5_wrongBy_77 ?_
        refine aw_iload_6 C dX5_wrongBy_78 ?_
        refine aw_iadd C dX5_wrongBy_80 ?_
        obtain rfl := Option.some.inj hF
        have hK : _ = y := hK
        subst hK
        exact aw_iret C E dX5_wrongBy_81 rfl rfl (bw_ret rfl)
def FX5_tells (n : Nat) (a1 : Int32) (a2 : Int32) (a3 : Int32) (h : aw_H) : Option (Int32 × aw_H) :=
  (if (FX5_isSheet a1) = 0 then some ((-2 : Int32), h) else (if (FX5_isTick a2) = 0 then some ((-2 : Int32), h) else (if (FX5_within a3 (0 : Int32) (3 : Int32)) = 0 then some ((-2 : Int32), h) else (if aw_inb a1 4 = true then (if (FX1_canTell (63 + 2 * (a1).toNatClampNeg) h) = 0 then (if (FX1_isMissing (63 + 2 * (a1).toNatClampNeg) h) = 0 then some ((-2 : Int32), h) else some ((-11 : Int32), h)) else (if a3 = (0 : Int32) then ((FX5_firstOtherwise n (63 + 2 * (a1).toNatClampNeg) a2 h).bind (fun q2 => some (q2, h))) else (if a3 = (1 : Int32) then ((FX5_wrongBy n (3 : Int32) (63 + 2 * (a1).toNatClampNeg) a2 h).bind (fun q5 => some (q5.1, q5.2))) else (if a3 = (2 : Int32) then ((FX5_wrongBy n (2 : Int32) (63 + 2 * (a1).toNatClampNeg) a2 h).bind (fun q8 => some (q8.1, q8.2))) else ((FX5_wrongBy n (0 : Int32) (63 + 2 * (a1).toNatClampNeg) a2 h).bind (fun q11 => some (q11.1, q11.2))))))) else none))))
set_option maxRecDepth 100000 in
set_option maxHeartbeats 4000000 in
theorem ctX5_tells (n : Nat) (a1 : Int32) (a2 : Int32) (a3 : Int32) (h : aw_H) (y : Int32 × aw_H) (hF : FX5_tells n a1 a2 a3 h = some y) : Ct 7 0 0 yX5_tells cX5_tells 5 (some .int) [.ref 0, .int a1, .int a2, .int a3] wL wR h (aw_D (some (.int y.1)) y.2) := by
  refine Ct.of (ls0 := [.ref 0, .int a1, .int a2, .int a3, .retAddr 0]) (by decide +kernel) rfl rfl (fun X C E hnm => ?_)
  have C : aw_C X RX5 cX5_tells 5 7 0 0 := C
  unfold FX5_tells at hF
  refine aw_iload_1 C dX5_tells_0 ?_
  refine bw_S1i C dX5_tells_1 kyX5_isSheet lX5_168 ksX5_isSheet rfl rfl (ctX5_isSheet a1 h _ rfl) ?_
  refine bw_if_eq (tgt := 23) C dX5_tells_4 (by decide) hF (fun hF => ?_) (fun hF => ?_)
  · refine aw_bipush C dX5_tells_23 lb_m2 ?_
    obtain rfl := Option.some.inj hF
    exact aw_iret C E dX5_tells_25 rfl rfl (bw_ret rfl)
  · refine aw_iload_2 C dX5_tells_7 ?_
    refine bw_S1i C dX5_tells_8 kyX5_isTick lX5_148 ksX5_isTick rfl rfl (ctX5_isTick a2 h _ rfl) ?_
    refine bw_if_eq (tgt := 23) C dX5_tells_11 (by decide) hF (fun hF => ?_) (fun hF => ?_)
    · refine aw_bipush C dX5_tells_23 lb_m2 ?_
      obtain rfl := Option.some.inj hF
      exact aw_iret C E dX5_tells_25 rfl rfl (bw_ret rfl)
    · refine aw_iload_3 C dX5_tells_14 ?_
      refine aw_iconst C dX5_tells_15 li_0 ?_
      refine aw_iconst C dX5_tells_16 li_3 ?_
      refine bw_S3i C dX5_tells_17 kyX5_within lX5_91 ksX5_within rfl rfl (ctX5_within a3 (0 : Int32) (3 : Int32) h _ rfl) ?_
      refine bw_if_ne (tgt := 26) C dX5_tells_20 (by decide) hF (fun hF => ?_) (fun hF => ?_)
      · refine aw_aload_0 C dX5_tells_26 ?_
        refine aw_getR C dX5_tells_27 fX5_27 gX5_3 rfl rfl ?_
        refine aw_iload_1 C dX5_tells_30 ?_
        obtain ⟨s1, hF⟩ := bw_side hF
        refine aw_aald (t := 1) C dX5_tells_31 (by decide) rfl (aw_ix s1) (aw_sh s1).1 ?_
        refine aw_astore_4 C dX5_tells_32 rfl rfl ?_
        refine aw_aload_4 C dX5_tells_34 ?_
        refine bw_V0i C dX5_tells_36 kyX1_canTell lX5_171 kiX1_canTell kvX1_canTell (aw_rv C (aw_s1 (aw_sh s1).2) rfl) rfl rfl (ctX1_canTell (63 + 2 * (a1).toNatClampNeg) h (aw_sh s1).2 _ rfl) ?_
        refine bw_if_ne (tgt := 58) C dX5_tells_39 (by decide) hF (fun hF => ?_) (fun hF => ?_)
        · refine aw_iload_3 C dX5_tells_58 ?_
          rcases Decidable.em (a3 = (0 : Int32)) with c4 | c4
          · rw [if_pos c4] at hF
            refine aw_tabIn (off := 25) (tgt := 84) C dX5_tells_59 (by rw [c4]; decide) (by rw [c4]; decide) (by rw [c4]; rfl) (by decide) ?_
            refine aw_aload_0 C dX5_tells_84 ?_
            refine aw_aload_4 C dX5_tells_85 ?_
            refine aw_iload_2 C dX5_tells_87 ?_
            obtain ⟨q2, e3, hF⟩ := bw_bind hF
            refine bw_V2i C dX5_tells_88 kyX5_firstOtherwise lX5_178 kiX5_firstOtherwise kvX5_firstOtherwise (aw_rv C rfl rfl) rfl rfl (ctX5_firstOtherwise n (63 + 2 * (a1).toNatClampNeg) a2 h (aw_sh s1).2 q2 e3) ?_
            obtain rfl := Option.some.inj hF
            exact aw_iret C E dX5_tells_91 rfl rfl (bw_ret rfl)
          rw [if_neg c4] at hF
          rcases Decidable.em (a3 = (1 : Int32)) with c7 | c7
          · rw [if_pos c7] at hF
            refine aw_tabIn (off := 33) (tgt := 92) C dX5_tells_59 (by rw [c7]; decide) (by rw [c7]; decide) (by rw [c7]; rfl) (by decide) ?_
            refine aw_aload_0 C dX5_tells_92 ?_
            refine aw_iconst C dX5_tells_93 li_3 ?_
            refine aw_aload_4 C dX5_tells_94 ?_
            refine aw_iload_2 C dX5_tells_96 ?_
            obtain ⟨q5, e6, hF⟩ := bw_bind hF
            refine bw_V3i C dX5_tells_97 kyX5_wrongBy lX5_182 kiX5_wrongBy kvX5_wrongBy (aw_rv C rfl rfl) rfl rfl (ctX5_wrongBy n (3 : Int32) (63 + 2 * (a1).toNatClampNeg) a2 h (aw_sh s1).2 q5 e6) ?_
            obtain rfl := Option.some.inj hF
            exact aw_iret C E dX5_tells_100 rfl rfl (bw_ret rfl)
          rw [if_neg c7] at hF
          rcases Decidable.em (a3 = (2 : Int32)) with c10 | c10
          · rw [if_pos c10] at hF
            refine aw_tabIn (off := 42) (tgt := 101) C dX5_tells_59 (by rw [c10]; decide) (by rw [c10]; decide) (by rw [c10]; rfl) (by decide) ?_
            refine aw_aload_0 C dX5_tells_101 ?_
            refine aw_iconst C dX5_tells_102 li_2 ?_
            refine aw_aload_4 C dX5_tells_103 ?_
            refine aw_iload_2 C dX5_tells_105 ?_
            obtain ⟨q8, e9, hF⟩ := bw_bind hF
            refine bw_V3i C dX5_tells_106 kyX5_wrongBy lX5_182 kiX5_wrongBy kvX5_wrongBy (aw_rv C rfl rfl) rfl rfl (ctX5_wrongBy n (2 : Int32) (63 + 2 * (a1).toNatClampNeg) a2 h (aw_sh s1).2 q8 e9) ?_
            obtain rfl := Option.some.inj hF
            exact aw_iret C E dX5_tells_109 rfl rfl (bw_ret rfl)
          rw [if_neg c10] at hF
          refine aw_tabOut (tgt := 110) C dX5_tells_59 (by
              have zc4 := bw_lit (z := 0) (by decide) c4
              have zc7 := bw_lit (z := 1) (by decide) c7
              have zc10 := bw_lit (z := 2) (by decide) c10
              omega) (by decide) ?_
          refine aw_aload_0 C dX5_tells_110 ?_
          refine aw_iconst C dX5_tells_111 li_0 ?_
          refine aw_aload_4 C dX5_tells_112 ?_
          refine aw_iload_2 C dX5_tells_114 ?_
          obtain ⟨q11, e12, hF⟩ := bw_bind hF
          refine bw_V3i C dX5_tells_115 kyX5_wrongBy lX5_182 kiX5_wrongBy kvX5_wrongBy (aw_rv C rfl rfl) rfl rfl (ctX5_wrongBy n (0 : Int32) (63 + 2 * (a1).toNatClampNeg) a2 h (aw_sh s1).2 q11 e12) ?_
          obtain rfl := Option.some.inj hF
          exact aw_iret C E dX5_tells_118 rfl rfl (bw_ret rfl)
        · refine aw_aload_4 C dX5_tells_42 ?_
          refine bw_V0i C dX5_tells_44 kyX1_isMissing lX5_175 kiX1_isMissing kvX1_isMissing (aw_rv C (aw_s1 (aw_sh s1).2) rfl) rfl rfl (ctX1_isMissing (63 + 2 * (a1).toNatClampNeg) h (aw_sh s1).2 _ rfl) ?_
          refine bw_if_eq (tgt := 55) C dX5_tells_47 (by decide) hF (fun hF => ?_) (fun hF => ?_)
          · refine aw_bipush C dX5_tells_55 lb_m2 ?_
            obtain rfl := Option.some.inj hF
            exact aw_iret C E dX5_tells_57 rfl rfl (bw_ret rfl)
          · refine aw_bipush C dX5_tells_50 lb_m11 ?_
            refine aw_goto (tgt := 57) C dX5_tells_52 (by decide) ?_
            obtain rfl := Option.some.inj hF
            exact aw_iret C E dX5_tells_57 rfl rfl (bw_ret rfl)
      · refine aw_bipush C dX5_tells_23 lb_m2 ?_
        obtain rfl := Option.some.inj hF
        exact aw_iret C E dX5_tells_25 rfl rfl (bw_ret rfl)
def BX5_hasHighs_28 (a1 : Nat) (a2 : Int32) (a3 : Int32) (u28 : (Int32 × Int32 × aw_H)) : Option ((Int32 × Int32 × aw_H) ⊕ (Int32 × aw_H)) :=
  (if a3 < u28.2.1 then (if u28.1 = (u28.2.2.1 a1 2) then some (Sum.inr ((1 : Int32), u28.2.2)) else some (Sum.inr ((0 : Int32), u28.2.2))) else (if (201 : Int32) ≤ u28.2.1 then (if u28.1 = (u28.2.2.1 a1 2) then some (Sum.inr ((1 : Int32), u28.2.2)) else some (Sum.inr ((0 : Int32), u28.2.2))) else (if (u28.2.2.1 a1 2) ≤ u28.1 then (if u28.1 = (u28.2.2.1 a1 2) then some (Sum.inr ((1 : Int32), u28.2.2)) else some (Sum.inr ((0 : Int32), u28.2.2))) else (if aw_inb u28.2.1 201 = true then ((FX3_swing 57 (a2 + u28.2.1) u28.2.2).bind (fun q6 => ((FX0_step ((u28.2.2.2 61 (u28.2.1).toNatClampNeg) + q6) u28.2.2).bind (fun q8 => (if q8.1 = (1 : Int32) then (if aw_inb u28.1 40 = true then (if (lg_cmp (q8.2.2 (a1 + 1) (u28.1).toNatClampNeg) ((((a2 + u28.2.1) - (1 : Int32))).toInt64)) = 0 then (if (1 : Int32) = (1 : Int32) then (if (1 : Int32) = 0 then some (Sum.inl (u28.1, (u28.2.1 + (1 : Int32)), q8.2)) else some (Sum.inl ((u28.1 + (1 : Int32)), (u28.2.1 + (1 : Int32)), q8.2))) else some (Sum.inr ((0 : Int32), q8.2))) else (if (1 : Int32) = (0 : Int32) then (if (1 : Int32) = 0 then some (Sum.inl (u28.1, (u28.2.1 + (1 : Int32)), q8.2)) else some (Sum.inl ((u28.1 + (1 : Int32)), (u28.2.1 + (1 : Int32)), q8.2))) else some (Sum.inr ((0 : Int32), q8.2)))) else none) else (if aw_inb u28.1 40 = true then (if (lg_cmp (q8.2.2 (a1 + 1) (u28.1).toNatClampNeg) ((((a2 + u28.2.1) - (1 : Int32))).toInt64)) = 0 then (if (0 : Int32) = (1 : Int32) then (if (0 : Int32) = 0 then some (Sum.inl (u28.1, (u28.2.1 + (1 : Int32)), q8.2)) else some (Sum.inl ((u28.1 + (1 : Int32)), (u28.2.1 + (1 : Int32)), q8.2))) else some (Sum.inr ((0 : Int32), q8.2))) else (if (0 : Int32) = (0 : Int32) then (if (0 : Int32) = 0 then some (Sum.inl (u28.1, (u28.2.1 + (1 : Int32)), q8.2)) else some (Sum.inl ((u28.1 + (1 : Int32)), (u28.2.1 + (1 : Int32)), q8.2))) else some (Sum.inr ((0 : Int32), q8.2)))) else none)))))) else none))))
def FX5_hasHighs (n : Nat) (a1 : Nat) (a2 : Int32) (a3 : Int32) (h : aw_H) : Option (Int32 × aw_H) :=
  ((FX3_swing 57 a2 h).bind (fun q1 => ((FX0_start ((h.2 61 0) + q1) h).bind (fun q3 => aw_loop (BX5_hasHighs_28 a1 a2 a3) n ((0 : Int32), (1 : Int32), q3)))))
set_option maxRecDepth 100000 in
set_option maxHeartbeats 4000000 in
theorem ctX5_hasHighs (n : Nat) (a1 : Nat) (a2 : Int32) (a3 : Int32) (h : aw_H) (f1 : aw_isS a1 = true) (y : Int32 × aw_H) (hF : FX5_hasHighs n a1 a2 a3 h = some y) : Ct 4 0 0 yX5_hasHighs cX5_hasHighs 7 (some .boolean) [.ref 0, .ref a1, .int a2, .int a3] wL wR h (aw_D (some (.int y.1)) y.2) := by
  refine Ct.of (ls0 := [.ref 0, .ref a1, .int a2, .int a3, .retAddr 0, .retAddr 0, .retAddr 0]) (by decide +kernel) rfl rfl (fun X C E hnm => ?_)
  have C : aw_C X RX5 cX5_hasHighs 7 4 0 0 := C
  unfold FX5_hasHighs at hF
  refine aw_iconst C dX5_hasHighs_0 li_0 ?_
  refine aw_istore_4 C dX5_hasHighs_1 rfl rfl ?_
  refine aw_aload_0 C dX5_hasHighs_3 ?_
  refine aw_getR C dX5_hasHighs_4 fX5_52 gX5_7 rfl rfl ?_
  refine aw_aload_0 C dX5_hasHighs_7 ?_
  refine aw_getR C dX5_hasHighs_8 fX5_45 gX5_6 rfl rfl ?_
  refine aw_iconst C dX5_hasHighs_11 li_0 ?_
  refine aw_lald C dX5_hasHighs_12 rfl (aw_ixk (k := 0) (n := 201) rfl rfl) ?_
  refine aw_aload_0 C dX5_hasHighs_13 ?_
  refine aw_getR C dX5_hasHighs_14 fX5_41 gX5_5 rfl rfl ?_
  refine aw_iload_2 C dX5_hasHighs_17 ?_
  obtain ⟨q1, e2, hF⟩ := bw_bind hF
  refine bw_V1l C dX5_hasHighs_18 kyX3_swing lX5_151 kiX3_swing kvX3_swing (aw_rv C rfl rfl) rfl rfl (ctX3_swing 57 a2 h rfl q1 e2) ?_
  refine aw_ladd C dX5_hasHighs_21 ?_
  obtain ⟨q3, e4, hF⟩ := bw_bind hF
  refine bw_V1v C dX5_hasHighs_22 kyX0_start lX5_158 kiX0_start kvX0_start (aw_rv C rfl rfl) rfl rfl (ctX0_start ((h.2 61 0) + q1) h q3 e4) ?_
  refine aw_iconst C dX5_hasHighs_25 li_1 ?_
  refine aw_istore_5 C dX5_hasHighs_26 rfl rfl ?_
  refine aw_loop_rule (fun u28 : (Int32 × Int32 × aw_H) => AW X 7 28 [.ref 0, .ref a1, .int a2, .int a3, .int u28.1, .int u28.2.1, .retAddr 0] [] wL wR u28.2.2 0 0) (fun q => q = y) (fun u28 y28 hF hK => ?_) n ((0 : Int32), (1 : Int32), q3) _ hF rfl
  unfold BX5_hasHighs_28 at hF
  refine aw_iload_5 C dX5_hasHighs_28 ?_
  refine aw_iload_3 C dX5_hasHighs_30 ?_
  refine bw_icmp_gt (tgt := 134) C dX5_hasHighs_31 (by decide) hF (fun hF => ?_) (fun hF => ?_)
  · refine aw_iload_4 C dX5_hasHighs_134 ?_
    refine aw_aload_1 C dX5_hasHighs_136 ?_
    refine aw_getI C dX5_hasHighs_137 fX5_287 gX1_2 (aw_s1 f1) ?_
    refine bw_icmp_ne (tgt := 147) C dX5_hasHighs_140 (by decide) hF (fun hF => ?_) (fun hF => ?_)
    · refine aw_iconst C dX5_hasHighs_147 li_0 ?_
      obtain rfl := Option.some.inj hF
      have hK : _ = y := hK
      subst hK
      exact aw_zret C E rfl dX5_hasHighs_148 rfl rfl (bw_ret rfl)
    · refine aw_iconst C dX5_hasHighs_143 li_1 ?_
      refine aw_goto (tgt := 148) C dX5_hasHighs_144 (by decide) ?_
      obtain rfl := Option.some.inj hF
      have hK : _ = y := hK
      subst hK
      exact aw_zret C E rfl dX5_hasHighs_148 rfl rfl (bw_ret rfl)
  · refine aw_iload_5 C dX5_hasHighs_34 ?_
    refine aw_aload_0 C dX5_hasHighs_36 ?_
    refine aw_getR C dX5_hasHighs_37 fX5_45 gX5_6 rfl rfl ?_
    refine aw_alen (t := 1) (v := 201) C dX5_hasHighs_40 (by decide) rfl (by decide) ?_
    refine bw_icmp_ge (tgt := 134) C dX5_hasHighs_41 (by decide) hF (fun hF => ?_) (fun hF => ?_)
    · refine aw_iload_4 C dX5_hasHighs_134 ?_
      refine aw_aload_1 C dX5_hasHighs_136 ?_
      refine aw_getI C dX5_hasHighs_137 fX5_287 gX1_2 (aw_s1 f1) ?_
      refine bw_icmp_ne (tgt := 147) C dX5_hasHighs_140 (by decide) hF (fun hF => ?_) (fun hF => ?_)
      · refine aw_iconst C dX5_hasHighs_147 li_0 ?_
        obtain rfl := Option.some.inj hF
        have hK : _ = y := hK
        subst hK
        exact aw_zret C E rfl dX5_hasHighs_148 rfl rfl (bw_ret rfl)
      · refine aw_iconst C dX5_hasHighs_143 li_1 ?_
        refine aw_goto (tgt := 148) C dX5_hasHighs_144 (by decide) ?_
        obtain rfl := Option.some.inj hF
        have hK : _ = y := hK
        subst hK
        exact aw_zret C E rfl dX5_hasHighs_148 rfl rfl (bw_ret rfl)
    · refine aw_iload_4 C dX5_hasHighs_44 ?_
      refine aw_aload_1 C dX5_hasHighs_46 ?_
      refine aw_getI C dX5_hasHighs_47 fX5_287 gX1_2 (aw_s1 f1) ?_
      refine bw_icmp_ge (tgt := 134) C dX5_hasHighs_50 (by decide) hF (fun hF => ?_) (fun hF => ?_)
      · refine aw_iload_4 C dX5_hasHighs_134 ?_
        refine aw_aload_1 C dX5_hasHighs_136 ?_
        refine aw_getI C dX5_hasHighs_137 fX5_287 gX1_2 (aw_s1 f1) ?_
        refine bw_icmp_ne (tgt := 147) C dX5_hasHighs_140 (by decide) hF (fun hF => ?_) (fun hF => ?_)
        · refine aw_iconst C dX5_hasHighs_147 li_0 ?_
          obtain rfl := Option.some.inj hF
          have hK : _ = y := hK
          subst hK
          exact aw_zret C E rfl dX5_hasHighs_148 rfl rfl (bw_ret rfl)
        · refine aw_iconst C dX5_hasHighs_143 li_1 ?_
          refine aw_goto (tgt := 148) C dX5_hasHighs_144 (by decide) ?_
          obtain rfl := Option.some.inj hF
          have hK : _ = y := hK
          subst hK
          exact aw_zret C E rfl dX5_hasHighs_148 rfl rfl (bw_ret rfl)
      · refine aw_aload_0 C dX5_hasHighs_53 ?_
        refine aw_getR C dX5_hasHighs_54 fX5_52 gX5_7 rfl rfl ?_
        refine aw_aload_0 C dX5_hasHighs_57 ?_
        refine aw_getR C dX5_hasHighs_58 fX5_45 gX5_6 rfl rfl ?_
        refine aw_iload_5 C dX5_hasHighs_61 ?_
        obtain ⟨s5, hF⟩ := bw_side hF
        refine aw_lald C dX5_hasHighs_63 rfl (aw_ix s5) ?_
        refine aw_aload_0 C dX5_hasHighs_64 ?_
        refine aw_getR C dX5_hasHighs_65 fX5_41 gX5_5 rfl rfl ?_
        refine aw_iload_2 C dX5_hasHighs_68 ?_
        refine aw_iload_5 C dX5_hasHighs_69 ?_
        refine aw_iadd C dX5_hasHighs_71 ?_
        obtain ⟨q6, e7, hF⟩ := bw_bind hF
        refine bw_V1l C dX5_hasHighs_72 kyX3_swing lX5_151 kiX3_swing kvX3_swing (aw_rv C rfl rfl) rfl rfl (ctX3_swing 57 (a2 + u28.2.1) u28.2.2 rfl q6 e7) ?_
        refine aw_ladd C dX5_hasHighs_75 ?_
        obtain ⟨q8, e9, hF⟩ := bw_bind hF
        refine bw_V1i C dX5_hasHighs_76 kyX0_step lX5_164 kiX0_step kvX0_step (aw_rv C rfl rfl) rfl rfl (ctX0_step ((u28.2.2.2 61 (u28.2.1).toNatClampNeg) + q6) u28.2.2 q8 e9) ?_
        refine aw_iconst C dX5_hasHighs_79 li_1 ?_
        refine bw_icmp_ne (tgt := 87) C dX5_hasHighs_80 (by decide) hF (fun hF => ?_) (fun hF => ?_)
        · refine aw_iconst C dX5_hasHighs_87 li_0 ?_
          refine aw_istore_6 C dX5_hasHighs_88 rfl rfl ?_
          refine aw_iload_6 C dX5_hasHighs_90 ?_
          refine aw_aload_1 C dX5_hasHighs_92 ?_
          refine aw_getR C dX5_hasHighs_93 fX5_268 gX1_0 (aw_s1 f1) (aw_sr0 f1) ?_
          refine aw_iload_4 C dX5_hasHighs_96 ?_
          obtain ⟨s10, hF⟩ := bw_side hF
          refine aw_lald C dX5_hasHighs_98 (aw_sa0 f1) (aw_ix s10) ?_
          refine aw_iload_2 C dX5_hasHighs_99 ?_
          refine aw_iload_5 C dX5_hasHighs_100 ?_
          refine aw_iadd C dX5_hasHighs_102 ?_
          refine aw_iconst C dX5_hasHighs_103 li_1 ?_
          refine aw_isub C dX5_hasHighs_104 ?_
          refine aw_i2l C dX5_hasHighs_105 ?_
          refine aw_lcmp C dX5_hasHighs_106 ?_
          refine bw_if_ne (tgt := 114) C dX5_hasHighs_107 (by decide) hF (fun hF => ?_) (fun hF => ?_)
          · refine aw_iconst C dX5_hasHighs_114 li_0 ?_
            refine bw_icmp_eq (tgt := 120) C dX5_hasHighs_115 (by decide) hF (fun hF => ?_) (fun hF => ?_)
            · refine aw_iload_6 C dX5_hasHighs_120 ?_
              refine bw_if_eq (tgt := 128) C dX5_hasHighs_122 (by decide) hF (fun hF => ?_) (fun hF => ?_)
              · refine aw_iinc_5 C dX5_hasHighs_128 li_1 rfl rfl ?_
                refine aw_goto (tgt := 28) C dX5_hasHighs_131 (by decide) ?_
                cases hF
                exact aw_weak (show aw_le [.ref 0, .ref a1, .int a2, .int a3, .int u28.1, .int (u28.2.1 + (1 : Int32)), .retAddr 0] [.ref 0, .ref a1, .int a2, .int a3, .int u28.1, .int (u28.2.1 + (1 : Int32)), .int (0 : Int32)] from ⟨Or.inr rfl, Or.inr rfl, Or.inr rfl, Or.inr rfl, Or.inr rfl, Or.inr rfl, Or.inl rfl, trivial⟩) hK
              · refine aw_iinc_4 C dX5_hasHighs_125 li_1 rfl rfl ?_
                refine aw_iinc_5 C dX5_hasHighs_128 li_1 rfl rfl ?_
                refine aw_goto (tgt := 28) C dX5_hasHighs_131 (by decide) ?_
                cases hF
                exact aw_weak (show aw_le [.ref 0, .ref a1, .int a2, .int a3, .int (u28.1 + (1 : Int32)), .int (u28.2.1 + (1 : Int32)), .retAddr 0] [.ref 0, .ref a1, .int a2, .int a3, .int (u28.1 + (1 : Int32)), .int (u28.2.1 + (1 : Int32)), .int (0 : Int32)] from ⟨Or.inr rfl, Or.inr rfl, Or.inr rfl, Or.inr rfl, Or.inr rfl, Or.inr rfl, Or.inl rfl, trivial⟩) hK
            · refine aw_iconst C dX5_hasHighs_118 li_0 ?_
              obtain rfl := Option.some.inj hF
              have hK : _ = y := hK
              subst hK
              exact aw_zret C E rfl dX5_hasHighs_119 rfl rfl (bw_ret rfl)
          · refine aw_iconst C dX5_hasHighs_110 li_1 ?_
            refine aw_goto (tgt := 115) C dX5_hasHighs_111 (by decide) ?_
            refine bw_icmp_eq (tgt := 120) C dX5_hasHighs_115 (by decide) hF (fun hF => ?_) (fun hF => ?_)
            · refine aw_iload_6 C dX5_hasHighs_120 ?_
              refine bw_if_eq (tgt := 128) C dX5_hasHighs_122 (by decide) hF (fun hF => ?_) (fun hF => ?_)
              · refine aw_iinc_5 C dX5_hasHighs_128 li_1 rfl rfl ?_
                refine aw_goto (tgt := 28) C dX5_hasHighs_131 (by decide) ?_
                cases hF
                exact aw_weak (show aw_le [.ref 0, .ref a1, .int a2, .int a3, .int u28.1, .int (u28.2.1 + (1 : Int32)), .retAddr 0] [.ref 0, .ref a1, .int a2, .int a3, .int u28.1, .int (u28.2.1 + (1 : Int32)), .int (0 : Int32)] from ⟨Or.inr rfl, Or.inr rfl, Or.inr rfl, Or.inr rfl, Or.inr rfl, Or.inr rfl, Or.inl rfl, trivial⟩) hK
              · refine aw_iinc_4 C dX5_hasHighs_125 li_1 rfl rfl ?_
                refine aw_iinc_5 C dX5_hasHighs_128 li_1 rfl rfl ?_
                refine aw_goto (tgt := 28) C dX5_hasHighs_131 (by decide) ?_
                cases hF
                exact aw_weak (show aw_le [.ref 0, .ref a1, .int a2, .int a3, .int (u28.1 + (1 : Int32)), .int (u28.2.1 + (1 : Int32)), .retAddr 0] [.ref 0, .ref a1, .int a2, .int a3, .int (u28.1 + (1 : Int32)), .int (u28.2.1 + (1 : Int32)), .int (0 : Int32)] from ⟨Or.inr rfl, Or.inr rfl, Or.inr rfl, Or.inr rfl, Or.inr rfl, Or.inr rfl, Or.inl rfl, trivial⟩) hK
            · refine aw_iconst C dX5_hasHighs_118 li_0 ?_
              obtain rfl := Option.some.inj hF
              have hK : _ = y := hK
              subst hK
              exact aw_zret C E rfl dX5_hasHighs_119 rfl rfl (bw_ret rfl)
        · refine aw_iconst C dX5_hasHighs_83 li_1 ?_
          refine aw_goto (tgt := 88) C dX5_hasHighs_84 (by decide) ?_
          refine aw_istore_6 C dX5_hasHighs_88 rfl rfl ?_
          refine aw_iload_6 C dX5_hasHighs_90 ?_
          refine aw_aload_1 C dX5_hasHighs_92 ?_
          refine aw_getR C dX5_hasHighs_93 fX5_268 gX1_0 (aw_s1 f1) (aw_sr0 f1) ?_
          refine aw_iload_4 C dX5_hasHighs_96 ?_
          obtain ⟨s11, hF⟩ := bw_side hF
          refine aw_lald C dX5_hasHighs_98 (aw_sa0 f1) (aw_ix s11) ?_
          refine aw_iload_2 C dX5_hasHighs_99 ?_
          refine aw_iload_5 C dX5_hasHighs_100 ?_
          refine aw_iadd C dX5_hasHighs_102 ?_
          refine aw_iconst C dX5_hasHighs_103 li_1 ?_
          refine aw_isub C dX5_hasHighs_104 ?_
          refine aw_i2l C dX5_hasHighs_105 ?_
          refine aw_lcmp C dX5_hasHighs_106 ?_
          refine bw_if_ne (tgt := 114) C dX5_hasHighs_107 (by decide) hF (fun hF => ?_) (fun hF => ?_)
          · refine aw_iconst C dX5_hasHighs_114 li_0 ?_
            refine bw_icmp_eq (tgt := 120) C dX5_hasHighs_115 (by decide) hF (fun hF => ?_) (fun hF => ?_)
            · refine aw_iload_6 C dX5_hasHighs_120 ?_
              refine bw_if_eq (tgt := 128) C dX5_hasHighs_122 (by decide) hF (fun hF => ?_) (fun hF => ?_)
              · refine aw_iinc_5 C dX5_hasHighs_128 li_1 rfl rfl ?_
                refine aw_goto (tgt := 28) C dX5_hasHighs_131 (by decide) ?_
                cases hF
                exact aw_weak (show aw_le [.ref 0, .ref a1, .int a2, .int a3, .int u28.1, .int (u28.2.1 + (1 : Int32)), .retAddr 0] [.ref 0, .ref a1, .int a2, .int a3, .int u28.1, .int (u28.2.1 + (1 : Int32)), .int (1 : Int32)] from ⟨Or.inr rfl, Or.inr rfl, Or.inr rfl, Or.inr rfl, Or.inr rfl, Or.inr rfl, Or.inl rfl, trivial⟩) hK
              · refine aw_iinc_4 C dX5_hasHighs_125 li_1 rfl rfl ?_
                refine aw_iinc_5 C dX5_hasHighs_128 li_1 rfl rfl ?_
                refine aw_goto (tgt := 28) C dX5_hasHighs_131 (by decide) ?_
                cases hF
                exact aw_weak (show aw_le [.ref 0, .ref a1, .int a2, .int a3, .int (u28.1 + (1 : Int32)), .int (u28.2.1 + (1 : Int32)), .retAddr 0] [.ref 0, .ref a1, .int a2, .int a3, .int (u28.1 + (1 : Int32)), .int (u28.2.1 + (1 : Int32)), .int (1 : Int32)] from ⟨Or.inr rfl, Or.inr rfl, Or.inr rfl, Or.inr rfl, Or.inr rfl, Or.inr rfl, Or.inl rfl, trivial⟩) hK
            · refine aw_iconst C dX5_hasHighs_118 li_0 ?_
              obtain rfl := Option.some.inj hF
              have hK : _ = y := hK
              subst hK
              exact aw_zret C E rfl dX5_hasHighs_119 rfl rfl (bw_ret rfl)
          · refine aw_iconst C dX5_hasHighs_110 li_1 ?_
            refine aw_goto (tgt := 115) C dX5_hasHighs_111 (by decide) ?_
            refine bw_icmp_eq (tgt := 120) C dX5_hasHighs_115 (by decide) hF (fun hF => ?_) (fun hF => ?_)
            · refine aw_iload_6 C dX5_hasHighs_120 ?_
              refine bw_if_eq (tgt := 128) C dX5_hasHighs_122 (by decide) hF (fun hF => ?_) (fun hF => ?_)
              · refine aw_iinc_5 C dX5_hasHighs_128 li_1 rfl rfl ?_
                refine aw_goto (tgt := 28) C dX5_hasHighs_131 (by decide) ?_
                cases hF
                exact aw_weak (show aw_le [.ref 0, .ref a1, .int a2, .int a3, .int u28.1, .int (u28.2.1 + (1 : Int32)), .retAddr 0] [.ref 0, .ref a1, .int a2, .int a3, .int u28.1, .int (u28.2.1 + (1 : Int32)), .int (1 : Int32)] from ⟨Or.inr rfl, Or.inr rfl, Or.inr rfl, Or.inr rfl, Or.inr rfl, Or.inr rfl, Or.inl rfl, trivial⟩) hK
              · refine aw_iinc_4 C dX5_hasHighs_125 li_1 rfl rfl ?_
                refine aw_iinc_5 C dX5_hasHighs_128 li_1 rfl rfl ?_
                refine aw_goto (tgt := 28) C dX5_hasHighs_131 (by decide) ?_
                cases hF
                exact aw_weak (show aw_le [.ref 0, .ref a1, .int a2, .int a3, .int (u28.1 + (1 : Int32)), .int (u28.2.1 + (1 : Int32)), .retAddr 0] [.ref 0, .ref a1, .int a2, .int a3, .int (u28.1 + (1 : Int32)), .int (u28.2.1 + (1 : Int32)), .int (1 : Int32)] from ⟨Or.inr rfl, Or.inr rfl, Or.inr rfl, Or.inr rfl, Or.inr rfl, Or.inr rfl, Or.inl rfl, trivial⟩) hK
            · refine aw_iconst C dX5_hasHighs_118 li_0 ?_
              obtain rfl := Option.some.inj hF
              have hK : _ = y := hK
              subst hK
              exact aw_zret C E rfl dX5_hasHighs_119 rfl rfl (bw_ret rfl)
def BX5_refound_110 (n : Nat) (a1 : Int32) (a3 : Int32) (a4 : Int32) (a5 : Int32) (u110 : (Int32 × Int32 × Int32 × aw_H)) : Option ((Int32 × Int32 × Int32 × aw_H) ⊕ (Int32 × aw_H)) :=
  (if u110.2.2.1 < 0 then (if a5 = 0 then some (Sum.inr (u110.1, u110.2.2.2)) else some (Sum.inr (u110.2.1, u110.2.2.2))) else ((FX5_hasHighs n (63 + 2 * (a1).toNatClampNeg) a3 a4 (aw_sI u110.2.2.2 (57 + 1) 3 u110.2.2.1)).bind (fun q8 => (if q8.1 = 0 then some (Sum.inl (u110.1, u110.2.1, (u110.2.2.1 + (-1 : Int32)), q8.2)) else some (Sum.inl ((u110.1 + (1 : Int32)), u110.2.2.1, (u110.2.2.1 + (-1 : Int32)), q8.2))))))
def FX5_refound (n : Nat) (a1 : Int32) (a2 : Int32) (a3 : Int32) (a4 : Int32) (a5 : Int32) (h : aw_H) : Option (Int32 × aw_H) :=
  ((FX4_wheelOf a2 h).bind (fun q1 => (aw_on q1 (if (FX5_isSheet a1) = 0 then some ((-2 : Int32), h) else some ((-2 : Int32), h)) (fun w3 => (if aw_isW w3 = true then (if (FX5_isSheet a1) = 0 then some ((-2 : Int32), h) else (if (FX5_isTick a3) = 0 then some ((-2 : Int32), h) else (if (FX5_within a4 (1 : Int32) (200 : Int32)) = 0 then some ((-2 : Int32), h) else (if (FX5_within a5 (0 : Int32) (1 : Int32)) = 0 then some ((-2 : Int32), h) else (if aw_inb a1 4 = true then (if (FX1_canTell (63 + 2 * (a1).toNatClampNeg) h) = 0 then (if (FX1_isMissing (63 + 2 * (a1).toNatClampNeg) h) = 0 then some ((-2 : Int32), h) else some ((-11 : Int32), h)) else ((FX5_think n w3 a3 (a4 + (1 : Int32)) h).bind (fun q6 => aw_loop (BX5_refound_110 n a1 a3 a4 a5) n ((0 : Int32), (-1 : Int32), (aw_ro 0 3), q6)))) else none))))) else none)))))
set_option maxRecDepth 100000 in
set_option maxHeartbeats 4000000 in
theorem ctX5_refound (n : Nat) (a1 : Int32) (a2 : Int32) (a3 : Int32) (a4 : Int32) (a5 : Int32) (h : aw_H) (y : Int32 × aw_H) (hF : FX5_refound n a1 a2 a3 a4 a5 h = some y) : Ct 6 0 0 yX5_refound cX5_refound 11 (some .int) [.ref 0, .int a1, .int a2, .int a3, .int a4, .int a5] wL wR h (aw_D (some (.int y.1)) y.2) := by
  refine Ct.of (ls0 := [.ref 0, .int a1, .int a2, .int a3, .int a4, .int a5, .retAddr 0, .retAddr 0, .retAddr 0, .retAddr 0, .retAddr 0]) (by decide +kernel) rfl rfl (fun X C E hnm => ?_)
  have C : aw_C X RX5 cX5_refound 11 6 0 0 := C
  unfold FX5_refound at hF
  refine aw_aload_0 C dX5_refound_0 ?_
  refine aw_getR C dX5_refound_1 fX5_12 gX5_0 rfl rfl ?_
  refine aw_iload_2 C dX5_refound_4 ?_
  obtain ⟨q1, e2, hF⟩ := bw_bind hF
  refine bw_V1q C dX5_refound_5 kyX4_wheelOf lX5_69 kiX4_wheelOf kvX4_wheelOf (aw_rv C rfl rfl) rfl rfl (ctX4_wheelOf a2 h q1 e2) ?_
  refine bw_on hF (fun hF => ?_) (fun w3 hF => ?_)
  · refine aw_astoreN_6 C dX5_refound_8 rfl rfl ?_
    refine aw_iload_1 C dX5_refound_10 ?_
    refine bw_S1i C dX5_refound_11 kyX5_isSheet lX5_168 ksX5_isSheet rfl rfl (ctX5_isSheet a1 h _ rfl) ?_
    refine bw_if_eq (tgt := 51) C dX5_refound_14 (by decide) hF (fun hF => ?_) (fun hF => ?_)
    · refine aw_bipush C dX5_refound_51 lb_m2 ?_
      obtain rfl := Option.some.inj hF
      exact aw_iret C E dX5_refound_53 rfl rfl (bw_ret rfl)
    · refine aw_aloadN_6 C dX5_refound_17 ?_
      refine aw_ifnullN (tgt := 51) C dX5_refound_19 (by decide) ?_
      refine aw_bipush C dX5_refound_51 lb_m2 ?_
      obtain rfl := Option.some.inj hF
      exact aw_iret C E dX5_refound_53 rfl rfl (bw_ret rfl)
  · obtain ⟨s4, hF⟩ := bw_side hF
    refine aw_astore_6 C dX5_refound_8 rfl rfl ?_
    refine aw_iload_1 C dX5_refound_10 ?_
    refine bw_S1i C dX5_refound_11 kyX5_isSheet lX5_168 ksX5_isSheet rfl rfl (ctX5_isSheet a1 h _ rfl) ?_
    refine bw_if_eq (tgt := 51) C dX5_refound_14 (by decide) hF (fun hF => ?_) (fun hF => ?_)
    · refine aw_bipush C dX5_refound_51 lb_m2 ?_
      obtain rfl := Option.some.inj hF
      exact aw_iret C E dX5_refound_53 rfl rfl (bw_ret rfl)
    · refine aw_aload_6 C dX5_refound_17 ?_
      refine aw_ifnullR C dX5_refound_19 ?_
      refine aw_iload_3 C dX5_refound_22 ?_
      refine bw_S1i C dX5_refound_23 kyX5_isTick lX5_148 ksX5_isTick rfl rfl (ctX5_isTick a3 h _ rfl) ?_
      refine bw_if_eq (tgt := 51) C dX5_refound_26 (by decide) hF (fun hF => ?_) (fun hF => ?_)
      · refine aw_bipush C dX5_refound_51 lb_m2 ?_
        obtain rfl := Option.some.inj hF
        exact aw_iret C E dX5_refound_53 rfl rfl (bw_ret rfl)
      · refine aw_iload_4 C dX5_refound_29 ?_
        refine aw_iconst C dX5_refound_31 li_1 ?_
        refine aw_sipush C dX5_refound_32 ls_200 ?_
        refine bw_S3i C dX5_refound_35 kyX5_within lX5_91 ksX5_within rfl rfl (ctX5_within a4 (1 : Int32) (200 : Int32) h _ rfl) ?_
        refine bw_if_eq (tgt := 51) C dX5_refound_38 (by decide) hF (fun hF => ?_) (fun hF => ?_)
        · refine aw_bipush C dX5_refound_51 lb_m2 ?_
          obtain rfl := Option.some.inj hF
          exact aw_iret C E dX5_refound_53 rfl rfl (bw_ret rfl)
        · refine aw_iload_5 C dX5_refound_41 ?_
          refine aw_iconst C dX5_refound_43 li_0 ?_
          refine aw_iconst C dX5_refound_44 li_1 ?_
          refine bw_S3i C dX5_refound_45 kyX5_within lX5_91 ksX5_within rfl rfl (ctX5_within a5 (0 : Int32) (1 : Int32) h _ rfl) ?_
          refine bw_if_ne (tgt := 54) C dX5_refound_48 (by decide) hF (fun hF => ?_) (fun hF => ?_)
          · refine aw_aload_0 C dX5_refound_54 ?_
            refine aw_getR C dX5_refound_55 fX5_27 gX5_3 rfl rfl ?_
            refine aw_iload_1 C dX5_refound_58 ?_
            obtain ⟨s5, hF⟩ := bw_side hF
            refine aw_aald (t := 1) C dX5_refound_59 (by decide) rfl (aw_ix s5) (aw_sh s5).1 ?_
            refine aw_astore_7 C dX5_refound_60 rfl rfl ?_
            refine aw_aload_7 C dX5_refound_62 ?_
            refine bw_V0i C dX5_refound_64 kyX1_canTell lX5_171 kiX1_canTell kvX1_canTell (aw_rv C (aw_s1 (aw_sh s5).2) rfl) rfl rfl (ctX1_canTell (63 + 2 * (a1).toNatClampNeg) h (aw_sh s5).2 _ rfl) ?_
            refine bw_if_ne (tgt := 86) C dX5_refound_67 (by decide) hF (fun hF => ?_) (fun hF => ?_)
            · refine aw_aload_0 C dX5_refound_86 ?_
              refine aw_aload_6 C dX5_refound_87 ?_
              refine aw_iload_3 C dX5_refound_89 ?_
              refine aw_iload_4 C dX5_refound_90 ?_
              refine aw_iconst C dX5_refound_92 li_1 ?_
              refine aw_iadd C dX5_refound_93 ?_
              obtain ⟨q6, e7, hF⟩ := bw_bind hF
              refine bw_V3v C dX5_refound_94 kyX5_think lX5_186 kiX5_think kvX5_think (aw_rv C rfl rfl) rfl rfl (ctX5_think n w3 a3 (a4 + (1 : Int32)) h s4 q6 e7) ?_
              refine aw_iconst C dX5_refound_97 li_0 ?_
              refine aw_istore_8 C dX5_refound_98 rfl rfl ?_
              refine aw_iconst C dX5_refound_100 li_m1 ?_
              refine aw_istore_9 C dX5_refound_101 rfl rfl ?_
              refine aw_gets (t := 0) C dX5_refound_103 (by decide) fX5_190 ?_
              refine aw_iconst C dX5_refound_106 li_3 ?_
              refine aw_tald (t := 0) C dX5_refound_107 (by decide) (aw_ixk (k := 3) (n := 4) rfl rfl) ?_
              refine aw_istore_10 C dX5_refound_108 rfl rfl ?_
              refine aw_weak (show aw_le [.ref 0, .retAddr 0, .retAddr 0, .int a3, .int a4, .int a5, .retAddr 0, .ref (63 + 2 * (a1).toNatClampNeg), .int (0 : Int32), .int (-1 : Int32), .int (aw_ro 0 3)] [.ref 0, .int a1, .int a2, .int a3, .int a4, .int a5, .ref w3, .ref (63 + 2 * (a1).toNatClampNeg), .int (0 : Int32), .int (-1 : Int32), .int (aw_ro 0 3)] from ⟨Or.inr rfl, Or.inl rfl, Or.inl rfl, Or.inr rfl, Or.inr rfl, Or.inr rfl, Or.inl rfl, Or.inr rfl, Or.inr rfl, Or.inr rfl, Or.inr rfl, trivial⟩) ?_
              refine aw_loop_rule4 (fun (v1 v2 v3 : Int32) (v4 : aw_H) => AW X 11 110 [.ref 0, .retAddr 0, .retAddr 0, .int a3, .int a4, .int a5, .retAddr 0, .ref (63 + 2 * (a1).toNatClampNeg), .int v1, .int v2, .int v3] [] wL wR v4 0 0) (fun q => q = y) (fun v1 v2 v3 v4 y110 hF hK => ?_) n (0 : Int32) (-1 : Int32) (aw_ro 0 3) (q6) _ hF rfl
              unfold BX5_refound_110 at hF
              dsimp only at hF
              refine aw_iload_10 C dX5_refound_110 ?_
              refine bw_if_lt (tgt := 151) C dX5_refound_112 (by decide) hF (fun hF => ?_) (fun hF => ?_)
              · refine aw_iload_5 C dX5_refound_151 ?_
                refine bw_if_ne (tgt := 161) C dX5_refound_153 (by decide) hF (fun hF => ?_) (fun hF => ?_)
                · refine aw_iload_9 C dX5_refound_161 ?_
                  obtain rfl := Option.some.inj hF
                  have hK : _ = y := hK
                  subst hK
                  exact aw_iret C E dX5_refound_163 rfl rfl (bw_ret rfl)
                · refine aw_iload_8 C dX5_refound_156 ?_
                  refine aw_goto (tgt := 163) C dX5_refound_158 (by decide) ?_
                  obtain rfl := Option.some.inj hF
                  have hK : _ = y := hK
                  subst hK
                  exact aw_iret C E dX5_refound_163 rfl rfl (bw_ret rfl)
              · refine aw_aload_0 C dX5_refound_115 ?_
                refine aw_getR C dX5_refound_116 fX5_41 gX5_5 rfl rfl ?_
                refine aw_getR C dX5_refound_119 fX5_102 gX3_0 rfl rfl ?_
                refine aw_iconst C dX5_refound_122 li_3 ?_
                refine aw_iload_10 C dX5_refound_123 ?_
                refine aw_iast C dX5_refound_125 rfl (aw_ixk (k := 3) (n := 4) rfl rfl) ?_
                refine aw_aload_0 C dX5_refound_126 ?_
                refine aw_aload_7 C dX5_refound_127 ?_
                refine aw_iload_3 C dX5_refound_129 ?_
                refine aw_iload_4 C dX5_refound_130 ?_
                obtain ⟨q8, e9, hF⟩ := bw_bind hF
                refine bw_V3i C dX5_refound_132 kyX5_hasHighs lX5_193 kiX5_hasHighs kvX5_hasHighs (aw_rv C rfl rfl) rfl rfl (ctX5_hasHighs n (63 + 2 * (a1).toNatClampNeg) a3 a4 (aw_sI v4 (57 + 1) 3 v3) (aw_sh s5).2 q8 e9) ?_
                refine bw_if_eq (tgt := 145) C dX5_refound_135 (by decide) hF (fun hF => ?_) (fun hF => ?_)
                · refine aw_iinc_10 C dX5_refound_145 li_m1 rfl rfl ?_
                  refine aw_goto (tgt := 110) C dX5_refound_148 (by decide) ?_
                  cases hF
                  have hK := aw_e4l hK
                  exact hK
                · refine aw_iinc_8 C dX5_refound_138 li_1 rfl rfl ?_
                  refine aw_iload_10 C dX5_refound_141 ?_
                  refine aw_istore_9 C dX5_refound_143 rfl rfl ?_
                  refine aw_iinc_10 C dX5_refound_145 li_m1 rfl rfl ?_
                  refine aw_goto (tgt := 110) C dX5_refound_148 (by decide) ?_
                  cases hF
                  have hK := aw_e4l hK
                  exact hK
            · refine aw_aload_7 C dX5_refound_70 ?_
              refine bw_V0i C dX5_refound_72 kyX1_isMissing lX5_175 kiX1_isMissing kvX1_isMissing (aw_rv C (aw_s1 (aw_sh s5).2) rfl) rfl rfl (ctX1_isMissing (63 + 2 * (a1).toNatClampNeg) h (aw_sh s5).2 _ rfl) ?_
              refine bw_if_eq (tgt := 83) C dX5_refound_75 (by decide) hF (fun hF => ?_) (fun hF => ?_)
              · refine aw_bipush C dX5_refound_83 lb_m2 ?_
                obtain rfl := Option.some.inj hF
                exact aw_iret C E dX5_refound_85 rfl rfl (bw_ret rfl)
              · refine aw_bipush C dX5_refound_78 lb_m11 ?_
                refine aw_goto (tgt := 85) C dX5_refound_80 (by decide) ?_
                obtain rfl := Option.some.inj hF
                exact aw_iret C E dX5_refound_85 rfl rfl (bw_ret rfl)
          · refine aw_bipush C dX5_refound_51 lb_m2 ?_
            obtain rfl := Option.some.inj hF
            exact aw_iret C E dX5_refound_53 rfl rfl (bw_ret rfl)
def BX5_film_45 (n : Nat) (a1 : Int32) (a2 : Int32) (a3 : Int32) (u45 : (Int32 × aw_H)) : Option ((Int32 × aw_H) ⊕ (Int32 × aw_H)) :=
  (if a3 ≤ u45.1 then some (Sum.inr (a3, u45.2)) else ((FX4_level n (a2 + u45.1) u45.2).bind (fun q4 => ((FX1_write (63 + 2 * (a1).toNatClampNeg) u45.1 q4 u45.2).bind (fun q6 => some (Sum.inl ((u45.1 + (1 : Int32)), q6)))))))
def FX5_film (n : Nat) (a1 : Int32) (a2 : Int32) (a3 : Int32) (h : aw_H) : Option (Int32 × aw_H) :=
  (if (FX5_isSheet a1) = 0 then some ((-2 : Int32), h) else (if (FX5_isTick a2) = 0 then some ((-2 : Int32), h) else (if (FX5_within a3 (0 : Int32) (40 : Int32)) = 0 then some ((-2 : Int32), h) else (if aw_inb a1 4 = true then ((FX1_begin n (63 + 2 * (a1).toNatClampNeg) (0 : Int32) a3 h).bind (fun q2 => aw_loop (BX5_film_45 n a1 a2 a3) n ((0 : Int32), q2))) else none))))
set_option maxRecDepth 100000 in
set_option maxHeartbeats 4000000 in
theorem ctX5_film (n : Nat) (a1 : Int32) (a2 : Int32) (a3 : Int32) (h : aw_H) (y : Int32 × aw_H) (hF : FX5_film n a1 a2 a3 h = some y) : Ct 5 0 0 yX5_film cX5_film 6 (some .int) [.ref 0, .int a1, .int a2, .int a3] wL wR h (aw_D (some (.int y.1)) y.2) := by
  refine Ct.of (ls0 := [.ref 0, .int a1, .int a2, .int a3, .retAddr 0, .retAddr 0]) (by decide +kernel) rfl rfl (fun X C E hnm => ?_)
  have C : aw_C X RX5 cX5_film 6 5 0 0 := C
  unfold FX5_film at hF
  refine aw_iload_1 C dX5_film_0 ?_
  refine bw_S1i C dX5_film_1 kyX5_isSheet lX5_168 ksX5_isSheet rfl rfl (ctX5_isSheet a1 h _ rfl) ?_
  refine bw_if_eq (tgt := 24) C dX5_film_4 (by decide) hF (fun hF => ?_) (fun hF => ?_)
  · refine aw_bipush C dX5_film_24 lb_m2 ?_
    obtain rfl := Option.some.inj hF
    exact aw_iret C E dX5_film_26 rfl rfl (bw_ret rfl)
  · refine aw_iload_2 C dX5_film_7 ?_
    refine bw_S1i C dX5_film_8 kyX5_isTick lX5_148 ksX5_isTick rfl rfl (ctX5_isTick a2 h _ rfl) ?_
    refine bw_if_eq (tgt := 24) C dX5_film_11 (by decide) hF (fun hF => ?_) (fun hF => ?_)
    · refine aw_bipush C dX5_film_24 lb_m2 ?_
      obtain rfl := Option.some.inj hF
      exact aw_iret C E dX5_film_26 rfl rfl (bw_ret rfl)
    · refine aw_iload_3 C dX5_film_14 ?_
      refine aw_iconst C dX5_film_15 li_0 ?_
      refine aw_bipush C dX5_film_16 lb_40 ?_
      refine bw_S3i C dX5_film_18 kyX5_within lX5_91 ksX5_within rfl rfl (ctX5_within a3 (0 : Int32) (40 : Int32) h _ rfl) ?_
      refine bw_if_ne (tgt := 27) C dX5_film_21 (by decide) hF (fun hF => ?_) (fun hF => ?_)
      · refine aw_aload_0 C dX5_film_27 ?_
        refine aw_getR C dX5_film_28 fX5_27 gX5_3 rfl rfl ?_
        refine aw_iload_1 C dX5_film_31 ?_
        obtain ⟨s1, hF⟩ := bw_side hF
        refine aw_aald (t := 1) C dX5_film_32 (by decide) rfl (aw_ix s1) (aw_sh s1).1 ?_
        refine aw_astore_4 C dX5_film_33 rfl rfl ?_
        refine aw_aload_4 C dX5_film_35 ?_
        refine aw_iconst C dX5_film_37 li_0 ?_
        refine aw_iload_3 C dX5_film_38 ?_
        obtain ⟨q2, e3, hF⟩ := bw_bind hF
        refine bw_V2v C dX5_film_39 kyX1_begin lX5_197 kiX1_begin kvX1_begin (aw_rv C (aw_s1 (aw_sh s1).2) rfl) rfl rfl (ctX1_begin n (63 + 2 * (a1).toNatClampNeg) (0 : Int32) a3 h (aw_sh s1).2 q2 e3) ?_
        refine aw_iconst C dX5_film_42 li_0 ?_
        refine aw_istore_5 C dX5_film_43 rfl rfl ?_
        refine aw_weak (show aw_le [.ref 0, .retAddr 0, .int a2, .int a3, .ref (63 + 2 * (a1).toNatClampNeg), .int (0 : Int32)] [.ref 0, .int a1, .int a2, .int a3, .ref (63 + 2 * (a1).toNatClampNeg), .int (0 : Int32)] from ⟨Or.inr rfl, Or.inl rfl, Or.inr rfl, Or.inr rfl, Or.inr rfl, Or.inr rfl, trivial⟩) ?_
        refine aw_loop_rule (fun u45 : (Int32 × aw_H) => AW X 6 45 [.ref 0, .retAddr 0, .int a2, .int a3, .ref (63 + 2 * (a1).toNatClampNeg), .int u45.1] [] wL wR u45.2 0 0) (fun q => q = y) (fun u45 y45 hF hK => ?_) n ((0 : Int32), q2) _ hF rfl
        unfold BX5_film_45 at hF
        refine aw_iload_5 C dX5_film_45 ?_
        refine aw_iload_3 C dX5_film_47 ?_
        refine bw_icmp_ge (tgt := 75) C dX5_film_48 (by decide) hF (fun hF => ?_) (fun hF => ?_)
        · refine aw_iload_3 C dX5_film_75 ?_
          obtain rfl := Option.some.inj hF
          have hK : _ = y := hK
          subst hK
          exact aw_iret C E dX5_film_76 rfl rfl (bw_ret rfl)
        · refine aw_aload_4 C dX5_film_51 ?_
          refine aw_iload_5 C dX5_film_53 ?_
          refine aw_aload_0 C dX5_film_55 ?_
          refine aw_getR C dX5_film_56 fX5_12 gX5_0 rfl rfl ?_
          refine aw_iload_2 C dX5_film_59 ?_
          refine aw_iload_5 C dX5_film_60 ?_
          refine aw_iadd C dX5_film_62 ?_
          obtain ⟨q4, e5, hF⟩ := bw_bind hF
          refine bw_V1l C dX5_film_63 kyX4_level lX5_144 kiX4_level kvX4_level (aw_rv C rfl rfl) rfl rfl (ctX4_level n (a2 + u45.1) u45.2 q4 e5) ?_
          obtain ⟨q6, e7, hF⟩ := bw_bind hF
          refine bw_V2v C dX5_film_66 kyX1_write lX5_201 kiX1_write kvX1_write (aw_rv C (aw_s1 (aw_sh s1).2) rfl) rfl rfl (ctX1_write (63 + 2 * (a1).toNatClampNeg) u45.1 q4 u45.2 (aw_sh s1).2 q6 e7) ?_
          refine aw_iinc_5 C dX5_film_69 li_1 rfl rfl ?_
          refine aw_goto (tgt := 45) C dX5_film_72 (by decide) ?_
          cases hF
          exact hK
      · refine aw_bipush C dX5_film_24 lb_m2 ?_
        obtain rfl := Option.some.inj hF
        exact aw_iret C E dX5_film_26 rfl rfl (bw_ret rfl)
def BX5_nearest_49 (a1 : Int32) (a2 : Int32) (u37 : (Int32 × Int32 × Int64 × Int32)) (u49 : (Int32 × Int32 × Int64 × Int32)) : Option ((Int32 × Int32 × Int64 × Int32) ⊕ ((Int32 × Int32 × Int64 × Int32) ⊕ Int32)) :=
  (if (200 : Int32) < u49.2.2.2 then some (Sum.inr (Sum.inl (u49.1, u49.2.1, u49.2.2.1, (u37.2.2.2 + (1 : Int32))))) else (if (FX5_misfit u37.2.2.2 u49.2.2.2) = 0 then (if u49.1 = 0 then some (Sum.inl (u37.2.2.2, u49.2.2.2, (FJ9_abs_067f4 (((u37.2.2.2).toInt64 * (a2).toInt64) - ((a1).toInt64 * (u49.2.2.2).toInt64))), (u49.2.2.2 + (1 : Int32)))) else (if 0 ≤ (lg_cmp ((FJ9_abs_067f4 (((u37.2.2.2).toInt64 * (a2).toInt64) - ((a1).toInt64 * (u49.2.2.2).toInt64))) * (u49.2.1).toInt64) (u49.2.2.1 * (u49.2.2.2).toInt64)) then some (Sum.inl (u49.1, u49.2.1, u49.2.2.1, (u49.2.2.2 + (1 : Int32)))) else some (Sum.inl (u37.2.2.2, u49.2.2.2, (FJ9_abs_067f4 (((u37.2.2.2).toInt64 * (a2).toInt64) - ((a1).toInt64 * (u49.2.2.2).toInt64))), (u49.2.2.2 + (1 : Int32)))))) else some (Sum.inl (u49.1, u49.2.1, u49.2.2.1, (u49.2.2.2 + (1 : Int32))))))
def BX5_nearest_37 (n : Nat) (a1 : Int32) (a2 : Int32) (u37 : (Int32 × Int32 × Int64 × Int32)) : Option ((Int32 × Int32 × Int64 × Int32) ⊕ Int32) :=
  (if (200 : Int32) < u37.2.2.2 then some (Sum.inr (((1000 : Int32) * u37.1) + u37.2.1)) else aw_loop (BX5_nearest_49 a1 a2 u37) n (u37.1, u37.2.1, u37.2.2.1, (8 : Int32)))
def FX5_nearest (n : Nat) (a1 : Int32) (a2 : Int32) : Option (Int32) :=
  (if (FX5_within a1 (1 : Int32) (9999 : Int32)) = 0 then some (-2 : Int32) else (if (FX5_within a2 (1 : Int32) (9999 : Int32)) = 0 then some (-2 : Int32) else aw_loop (BX5_nearest_37 n a1 a2) n ((0 : Int32), (0 : Int32), (0 : Int64), (8 : Int32))))
set_option maxRecDepth 100000 in
set_option maxHeartbeats 4000000 in
theorem ctX5_nearest (n : Nat) (a1 : Int32) (a2 : Int32) (h : aw_H) (y : Int32) (hF : FX5_nearest n a1 a2 = some y) : Ct 1 0 0 yX5_nearest cX5_nearest 11 (some .int) [.ref 0, .int a1, .int a2] wL wR h (aw_D (some (.int y)) h) := by
  refine Ct.of (ls0 := [.ref 0, .int a1, .int a2, .retAddr 0, .retAddr 0, .retAddr 0, .retAddr 0, .retAddr 0, .retAddr 0, .retAddr 0, .retAddr 0]) (by decide +kernel) rfl rfl (fun X C E hnm => ?_)
  have C : aw_C X RX5 cX5_nearest 11 1 0 0 := C
  unfold FX5_nearest at hF
  refine aw_iload_1 C dX5_nearest_0 ?_
  refine aw_iconst C dX5_nearest_1 li_1 ?_
  refine aw_sipush C dX5_nearest_2 ls_9999 ?_
  refine bw_S3i C dX5_nearest_5 kyX5_within lX5_91 ksX5_within rfl rfl (ctX5_within a1 (1 : Int32) (9999 : Int32) h _ rfl) ?_
  refine bw_if_eq (tgt := 22) C dX5_nearest_8 (by decide) hF (fun hF => ?_) (fun hF => ?_)
  · refine aw_bipush C dX5_nearest_22 lb_m2 ?_
    obtain rfl := Option.some.inj hF
    exact aw_iret C E dX5_nearest_24 rfl rfl (bw_ret rfl)
  · refine aw_iload_2 C dX5_nearest_11 ?_
    refine aw_iconst C dX5_nearest_12 li_1 ?_
    refine aw_sipush C dX5_nearest_13 ls_9999 ?_
    refine bw_S3i C dX5_nearest_16 kyX5_within lX5_91 ksX5_within rfl rfl (ctX5_within a2 (1 : Int32) (9999 : Int32) h _ rfl) ?_
    refine bw_if_ne (tgt := 25) C dX5_nearest_19 (by decide) hF (fun hF => ?_) (fun hF => ?_)
    · refine aw_iconst C dX5_nearest_25 li_0 ?_
      refine aw_istore_3 C dX5_nearest_26 rfl rfl ?_
      refine aw_iconst C dX5_nearest_27 li_0 ?_
      refine aw_istore_4 C dX5_nearest_28 rfl rfl ?_
      refine aw_lconst C dX5_nearest_30 ll_0 ?_
      refine aw_lstore_5 C dX5_nearest_31 rfl rfl ?_
      refine aw_bipush C dX5_nearest_33 lb_8 ?_
      refine aw_istore_7 C dX5_nearest_35 rfl rfl ?_
      refine aw_weak (show aw_le [.retAddr 0, .int a1, .int a2, .int (0 : Int32), .int (0 : Int32), .long (0 : Int64), .retAddr 0, .int (8 : Int32), .retAddr 0, .retAddr 0, .retAddr 0] [.ref 0, .int a1, .int a2, .int (0 : Int32), .int (0 : Int32), .long (0 : Int64), .retAddr 0, .int (8 : Int32), .retAddr 0, .retAddr 0, .retAddr 0] from ⟨Or.inl rfl, Or.inr rfl, Or.inr rfl, Or.inr rfl, Or.inr rfl, Or.inr rfl, Or.inr rfl, Or.inr rfl, Or.inr rfl, Or.inr rfl, Or.inr rfl, trivial⟩) ?_
      refine aw_loop_rule (fun u37 : (Int32 × Int32 × Int64 × Int32) => AW X 11 37 [.retAddr 0, .int a1, .int a2, .int u37.1, .int u37.2.1, .long u37.2.2.1, .retAddr 0, .int u37.2.2.2, .retAddr 0, .retAddr 0, .retAddr 0] [] wL wR h 0 0) (fun q => q = y) (fun u37 y37 hF hK => ?_) n ((0 : Int32), (0 : Int32), (0 : Int64), (8 : Int32)) _ hF rfl
      unfold BX5_nearest_37 at hF
      refine aw_iload_7 C dX5_nearest_37 ?_
      refine aw_sipush C dX5_nearest_39 ls_200 ?_
      refine bw_icmp_gt (tgt := 128) C dX5_nearest_42 (by decide) hF (fun hF => ?_) (fun hF => ?_)
      · refine aw_sipush C dX5_nearest_128 ls_1000 ?_
        refine aw_iload_3 C dX5_nearest_131 ?_
        refine aw_imul C dX5_nearest_132 ?_
        refine aw_iload_4 C dX5_nearest_133 ?_
        refine aw_iadd C dX5_nearest_135 ?_
        obtain rfl := Option.some.inj hF
        have hK : _ = y := hK
        subst hK
        exact aw_iret C E dX5_nearest_136 rfl rfl (bw_ret rfl)
      · refine aw_bipush C dX5_nearest_45 lb_8 ?_
        refine aw_istore_8 C dX5_nearest_47 rfl rfl ?_
        refine aw_loop_rule (fun u49 : (Int32 × Int32 × Int64 × Int32) => AW X 11 49 [.retAddr 0, .int a1, .int a2, .int u49.1, .int u49.2.1, .long u49.2.2.1, .retAddr 0, .int u37.2.2.2, .int u49.2.2.2, .retAddr 0, .retAddr 0] [] wL wR h 0 0) _ (fun u49 y49 hF hK => ?_) n (u37.1, u37.2.1, u37.2.2.1, (8 : Int32)) _ hF hK
        unfold BX5_nearest_49 at hF
        refine aw_iload_8 C dX5_nearest_49 ?_
        refine aw_sipush C dX5_nearest_51 ls_200 ?_
        refine bw_icmp_gt (tgt := 122) C dX5_nearest_54 (by decide) hF (fun hF => ?_) (fun hF => ?_)
        · refine aw_iinc_7 C dX5_nearest_122 li_1 rfl rfl ?_
          refine aw_goto (tgt := 37) C dX5_nearest_125 (by decide) ?_
          cases hF
          exact aw_weak (show aw_le [.retAddr 0, .int a1, .int a2, .int u49.1, .int u49.2.1, .long u49.2.2.1, .retAddr 0, .int (u37.2.2.2 + (1 : Int32)), .retAddr 0, .retAddr 0, .retAddr 0] [.retAddr 0, .int a1, .int a2, .int u49.1, .int u49.2.1, .long u49.2.2.1, .retAddr 0, .int (u37.2.2.2 + (1 : Int32)), .int u49.2.2.2, .retAddr 0, .retAddr 0] from ⟨Or.inr rfl, Or.inr rfl, Or.inr rfl, Or.inr rfl, Or.inr rfl, Or.inr rfl, Or.inr rfl, Or.inr rfl, Or.inl rfl, Or.inr rfl, Or.inr rfl, trivial⟩) hK
        · refine aw_iload_7 C dX5_nearest_57 ?_
          refine aw_i2l C dX5_nearest_59 ?_
          refine aw_iload_2 C dX5_nearest_60 ?_
          refine aw_i2l C dX5_nearest_61 ?_
          refine aw_lmul C dX5_nearest_62 ?_
          refine aw_iload_1 C dX5_nearest_63 ?_
          refine aw_i2l C dX5_nearest_64 ?_
          refine aw_iload_8 C dX5_nearest_65 ?_
          refine aw_i2l C dX5_nearest_67 ?_
          refine aw_lmul C dX5_nearest_68 ?_
          refine aw_lsub C dX5_nearest_69 ?_
          refine bw_abs C dX5_nearest_70 lX5_205 rfl rfl ?_
          refine aw_lstore_9 C dX5_nearest_73 rfl rfl ?_
          refine aw_iload_7 C dX5_nearest_75 ?_
          refine aw_iload_8 C dX5_nearest_77 ?_
          refine bw_S2i C dX5_nearest_79 kyX5_misfit lX5_123 ksX5_misfit rfl rfl (ctX5_misfit u37.2.2.2 u49.2.2.2 h _ rfl) ?_
          refine bw_if_ne (tgt := 116) C dX5_nearest_82 (by decide) hF (fun hF => ?_) (fun hF => ?_)
          · refine aw_iinc_8 C dX5_nearest_116 li_1 rfl rfl ?_
            refine aw_goto (tgt := 49) C dX5_nearest_119 (by decide) ?_
            cases hF
            exact aw_weak (show aw_le [.retAddr 0, .int a1, .int a2, .int u49.1, .int u49.2.1, .long u49.2.2.1, .retAddr 0, .int u37.2.2.2, .int (u49.2.2.2 + (1 : Int32)), .retAddr 0, .retAddr 0] [.retAddr 0, .int a1, .int a2, .int u49.1, .int u49.2.1, .long u49.2.2.1, .retAddr 0, .int u37.2.2.2, .int (u49.2.2.2 + (1 : Int32)), .long (FJ9_abs_067f4 (((u37.2.2.2).toInt64 * (a2).toInt64) - ((a1).toInt64 * (u49.2.2.2).toInt64))), .retAddr 0] from ⟨Or.inr rfl, Or.inr rfl, Or.inr rfl, Or.inr rfl, Or.inr rfl, Or.inr rfl, Or.inr rfl, Or.inr rfl, Or.inr rfl, Or.inl rfl, Or.inr rfl, trivial⟩) hK
          · refine aw_iload_3 C dX5_nearest_85 ?_
            refine bw_if_eq (tgt := 105) C dX5_nearest_86 (by decide) hF (fun hF => ?_) (fun hF => ?_)
            · refine aw_iload_7 C dX5_nearest_105 ?_
              refine aw_istore_3 C dX5_nearest_107 rfl rfl ?_
              refine aw_iload_8 C dX5_nearest_108 ?_
              refine aw_istore_4 C dX5_nearest_110 rfl rfl ?_
              refine aw_lload_9 C dX5_nearest_112 ?_
              refine aw_lstore_5 C dX5_nearest_114 rfl rfl ?_
              refine aw_iinc_8 C dX5_nearest_116 li_1 rfl rfl ?_
              refine aw_goto (tgt := 49) C dX5_nearest_119 (by decide) ?_
              cases hF
              exact aw_weak (show aw_le [.retAddr 0, .int a1, .int a2, .int u37.2.2.2, .int u49.2.2.2, .long (FJ9_abs_067f4 (((u37.2.2.2).toInt64 * (a2).toInt64) - ((a1).toInt64 * (u49.2.2.2).toInt64))), .retAddr 0, .int u37.2.2.2, .int (u49.2.2.2 + (1 : Int32)), .retAddr 0, .retAddr 0] [.retAddr 0, .int a1, .int a2, .int u37.2.2.2, .int u49.2.2.2, .long (FJ9_abs_067f4 (((u37.2.2.2).toInt64 * (a2).toInt64) - ((a1).toInt64 * (u49.2.2.2).toInt64))), .retAddr 0, .int u37.2.2.2, .int (u49.2.2.2 + (1 : Int32)), .long (FJ9_abs_067f4 (((u37.2.2.2).toInt64 * (a2).toInt64) - ((a1).toInt64 * (u49.2.2.2).toInt64))), .retAddr 0] from ⟨Or.inr rfl, Or.inr rfl, Or.inr rfl, Or.inr rfl, Or.inr rfl, Or.inr rfl, Or.inr rfl, Or.inr rfl, Or.inr rfl, Or.inl rfl, Or.inr rfl, trivial⟩) hK
            · refine aw_lload_9 C dX5_nearest_89 ?_
              refine aw_iload_4 C dX5_nearest_91 ?_
              refine aw_i2l C dX5_nearest_93 ?_
              refine aw_lmul C dX5_nearest_94 ?_
              refine aw_lload_5 C dX5_nearest_95 ?_
              refine aw_iload_8 C dX5_nearest_97 ?_
              refine aw_i2l C dX5_nearest_99 ?_
              refine aw_lmul C dX5_nearest_100 ?_
              refine aw_lcmp C dX5_nearest_101 ?_
              refine bw_if_ge (tgt := 116) C dX5_nearest_102 (by decide) hF (fun hF => ?_) (fun hF => ?_)
              · refine aw_iinc_8 C dX5_nearest_116 li_1 rfl rfl ?_
                refine aw_goto (tgt := 49) C dX5_nearest_119 (by decide) ?_
                cases hF
                exact aw_weak (show aw_le [.retAddr 0, .int a1, .int a2, .int u49.1, .int u49.2.1, .long u49.2.2.1, .retAddr 0, .int u37.2.2.2, .int (u49.2.2.2 + (1 : Int32)), .retAddr 0, .retAddr 0] [.retAddr 0, .int a1, .int a2, .int u49.1, .int u49.2.1, .long u49.2.2.1, .retAddr 0, .int u37.2.2.2, .int (u49.2.2.2 + (1 : Int32)), .long (FJ9_abs_067f4 (((u37.2.2.2).toInt64 * (a2).toInt64) - ((a1).toInt64 * (u49.2.2.2).toInt64))), .retAddr 0] from ⟨Or.inr rfl, Or.inr rfl, Or.inr rfl, Or.inr rfl, Or.inr rfl, Or.inr rfl, Or.inr rfl, Or.inr rfl, Or.inr rfl, Or.inl rfl, Or.inr rfl, trivial⟩) hK
              · refine aw_iload_7 C dX5_nearest_105 ?_
                refine aw_istore_3 C dX5_nearest_107 rfl rfl ?_
                refine aw_iload_8 C dX5_nearest_108 ?_
                refine aw_istore_4 C dX5_nearest_110 rfl rfl ?_
                refine aw_lload_9 C dX5_nearest_112 ?_
                refine aw_lstore_5 C dX5_nearest_114 rfl rfl ?_
                refine aw_iinc_8 C dX5_nearest_116 li_1 rfl rfl ?_
                refine aw_goto (tgt := 49) C dX5_nearest_119 (by decide) ?_
                cases hF
                exact aw_weak (show aw_le [.retAddr 0, .int a1, .int a2, .int u37.2.2.2, .int u49.2.2.2, .long (FJ9_abs_067f4 (((u37.2.2.2).toInt64 * (a2).toInt64) - ((a1).toInt64 * (u49.2.2.2).toInt64))), .retAddr 0, .int u37.2.2.2, .int (u49.2.2.2 + (1 : Int32)), .retAddr 0, .retAddr 0] [.retAddr 0, .int a1, .int a2, .int u37.2.2.2, .int u49.2.2.2, .long (FJ9_abs_067f4 (((u37.2.2.2).toInt64 * (a2).toInt64) - ((a1).toInt64 * (u49.2.2.2).toInt64))), .retAddr 0, .int u37.2.2.2, .int (u49.2.2.2 + (1 : Int32)), .long (FJ9_abs_067f4 (((u37.2.2.2).toInt64 * (a2).toInt64) - ((a1).toInt64 * (u49.2.2.2).toInt64))), .retAddr 0] from ⟨Or.inr rfl, Or.inr rfl, Or.inr rfl, Or.inr rfl, Or.inr rfl, Or.inr rfl, Or.inr rfl, Or.inr rfl, Or.inr rfl, Or.inl rfl, Or.inr rfl, trivial⟩) hK
    · refine aw_bipush C dX5_nearest_22 lb_m2 ?_
      obtain rfl := Option.some.inj hF
      exact aw_iret C E dX5_nearest_24 rfl rfl (bw_ret rfl)

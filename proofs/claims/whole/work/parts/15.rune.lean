def FX6_gear (a1 : Int32) (a2 : Int32) (a3 : Int32) (h : aw_H) : Option (Int32 × aw_H) :=
  (if (FX6_isPart a1 h) = 0 then some ((-2 : Int32), h) else (if (FX6_isIn ((a2).toInt64) (8 : Int64) (200 : Int64)) = 0 then some ((-2 : Int32), h) else (if (FX6_isIn ((a3).toInt64) (8 : Int64) (200 : Int64)) = 0 then some ((-2 : Int32), h) else ((FX6_at a1 (4 : Int32) h).bind (fun q1 => (if q1 = (3 : Int32) then some ((-4 : Int32), h) else ((FX6_lays a1 ((5 : Int32) + q1) a2 h).bind (fun q3 => ((FX6_lays a1 ((8 : Int32) + q1) a3 q3).bind (fun q5 => ((FX6_lays a1 (4 : Int32) (q1 + (1 : Int32)) q5).bind (fun q7 => some ((q1 + (1 : Int32)), q7)))))))))))))
set_option maxRecDepth 100000 in
set_option maxHeartbeats 4000000 in
theorem ctX6_gear (a1 : Int32) (a2 : Int32) (a3 : Int32) (h : aw_H) (y : Int32 × aw_H) (hF : FX6_gear a1 a2 a3 h = some y) : Ct 2 0 0 yX6_gear cX6_gear 5 (some .int) [.ref 71, .int a1, .int a2, .int a3] wL wR h (aw_D (some (.int y.1)) y.2) := by
  refine Ct.of (ls0 := [.ref 71, .int a1, .int a2, .int a3, .retAddr 0]) (by decide +kernel) rfl rfl (fun X C E hnm => ?_)
  have C : aw_C X RX6 cX6_gear 5 2 0 0 := C
  unfold FX6_gear at hF
  refine aw_aload_0 C dX6_gear_0 ?_
  refine aw_iload_1 C dX6_gear_1 ?_
  refine bw_V1i C dX6_gear_2 kyX6_isPart lX6_69 kiX6_isPart kvX6_isPart (aw_rv C rfl rfl) rfl rfl (ctX6_isPart a1 h _ rfl) ?_
  refine bw_if_eq (tgt := 36) C dX6_gear_5 (by decide) hF (fun hF => ?_) (fun hF => ?_)
  · refine aw_bipush C dX6_gear_36 lb_m2 ?_
    obtain rfl := Option.some.inj hF
    exact aw_iret C E dX6_gear_38 rfl rfl (bw_ret rfl)
  · refine aw_iload_2 C dX6_gear_8 ?_
    refine aw_i2l C dX6_gear_9 ?_
    refine aw_ldc2 C dX6_gear_10 nX6_73 ?_
    refine aw_ldc2 C dX6_gear_13 nX6_75 ?_
    refine bw_S3i C dX6_gear_16 kyX6_isIn lX6_49 ksX6_isIn rfl rfl (ctX6_isIn ((a2).toInt64) (8 : Int64) (200 : Int64) h _ rfl) ?_
    refine bw_if_eq (tgt := 36) C dX6_gear_19 (by decide) hF (fun hF => ?_) (fun hF => ?_)
    · refine aw_bipush C dX6_gear_36 lb_m2 ?_
      obtain rfl := Option.some.inj hF
      exact aw_iret C E dX6_gear_38 rfl rfl (bw_ret rfl)
    · refine aw_iload_3 C dX6_gear_22 ?_
      refine aw_i2l C dX6_gear_23 ?_
      refine aw_ldc2 C dX6_gear_24 nX6_73 ?_
      refine aw_ldc2 C dX6_gear_27 nX6_75 ?_
      refine bw_S3i C dX6_gear_30 kyX6_isIn lX6_49 ksX6_isIn rfl rfl (ctX6_isIn ((a3).toInt64) (8 : Int64) (200 : Int64) h _ rfl) ?_
      refine bw_if_ne (tgt := 39) C dX6_gear_33 (by decide) hF (fun hF => ?_) (fun hF => ?_)
      · refine aw_aload_0 C dX6_gear_39 ?_
        refine aw_iload_1 C dX6_gear_40 ?_
        refine aw_iconst C dX6_gear_41 li_4 ?_
        obtain ⟨q1, e2, hF⟩ := bw_bind hF
        refine bw_V2i C dX6_gear_42 kyX6_at lX6_77 kiX6_at kvX6_at (aw_rv C rfl rfl) rfl rfl (ctX6_at a1 (4 : Int32) h q1 e2) ?_
        refine aw_istore_4 C dX6_gear_45 rfl rfl ?_
        refine aw_iload_4 C dX6_gear_47 ?_
        refine aw_iconst C dX6_gear_49 li_3 ?_
        refine bw_icmp_ne (tgt := 56) C dX6_gear_50 (by decide) hF (fun hF => ?_) (fun hF => ?_)
        · refine aw_aload_0 C dX6_gear_56 ?_
          refine aw_iload_1 C dX6_gear_57 ?_
          refine aw_iconst C dX6_gear_58 li_5 ?_
          refine aw_iload_4 C dX6_gear_59 ?_
          refine aw_iadd C dX6_gear_61 ?_
          refine aw_iload_2 C dX6_gear_62 ?_
          obtain ⟨q3, e4, hF⟩ := bw_bind hF
          refine bw_V3v C dX6_gear_63 kyX6_lays lX6_65 kiX6_lays kvX6_lays (aw_rv C rfl rfl) rfl rfl (ctX6_lays a1 ((5 : Int32) + q1) a2 h q3 e4) ?_
          refine aw_aload_0 C dX6_gear_66 ?_
          refine aw_iload_1 C dX6_gear_67 ?_
          refine aw_bipush C dX6_gear_68 lb_8 ?_
          refine aw_iload_4 C dX6_gear_70 ?_
          refine aw_iadd C dX6_gear_72 ?_
          refine aw_iload_3 C dX6_gear_73 ?_
          obtain ⟨q5, e6, hF⟩ := bw_bind hF
          refine bw_V3v C dX6_gear_74 kyX6_lays lX6_65 kiX6_lays kvX6_lays (aw_rv C rfl rfl) rfl rfl (ctX6_lays a1 ((8 : Int32) + q1) a3 q3 q5 e6) ?_
          refine aw_aload_0 C dX6_gear_77 ?_
          refine aw_iload_1 C dX6_gear_78 ?_
          refine aw_iconst C dX6_gear_79 li_4 ?_
          refine aw_iload_4 C dX6_gear_80 ?_
          refine aw_iconst C dX6_gear_82 li_1 ?_
          refine aw_iadd C dX6_gear_83 ?_
          obtain ⟨q7, e8, hF⟩ := bw_bind hF
          refine bw_V3v C dX6_gear_84 kyX6_lays lX6_65 kiX6_lays kvX6_lays (aw_rv C rfl rfl) rfl rfl (ctX6_lays a1 (4 : Int32) (q1 + (1 : Int32)) q5 q7 e8) ?_
          refine aw_iload_4 C dX6_gear_87 ?_
          refine aw_iconst C dX6_gear_89 li_1 ?_
          refine aw_iadd C dX6_gear_90 ?_
          obtain rfl := Option.some.inj hF
          exact aw_iret C E dX6_gear_91 rfl rfl (bw_ret rfl)
        · refine aw_bipush C dX6_gear_53 lb_m4 ?_
          obtain rfl := Option.some.inj hF
          exact aw_iret C E dX6_gear_55 rfl rfl (bw_ret rfl)
      · refine aw_bipush C dX6_gear_36 lb_m2 ?_
        obtain rfl := Option.some.inj hF
        exact aw_iret C E dX6_gear_38 rfl rfl (bw_ret rfl)
def FX6_ungear (a1 : Int32) (h : aw_H) : Option (Int32 × aw_H) :=
  (if (FX6_isPart a1 h) = 0 then some ((-2 : Int32), h) else ((FX6_at a1 (4 : Int32) h).bind (fun q1 => (if q1 = 0 then some ((-3 : Int32), h) else ((FX6_at a1 (4 : Int32) h).bind (fun q3 => ((FX6_lays a1 (4 : Int32) (q3 - (1 : Int32)) h).bind (fun q5 => ((FX6_at a1 (4 : Int32) q5).bind (fun q7 => some (q7, q5)))))))))))
set_option maxRecDepth 100000 in
set_option maxHeartbeats 4000000 in
theorem ctX6_ungear (a1 : Int32) (h : aw_H) (y : Int32 × aw_H) (hF : FX6_ungear a1 h = some y) : Ct 2 0 0 yX6_ungear cX6_ungear 2 (some .int) [.ref 71, .int a1] wL wR h (aw_D (some (.int y.1)) y.2) := by
  refine Ct.of (ls0 := [.ref 71, .int a1]) (by decide +kernel) rfl rfl (fun X C E hnm => ?_)
  have C : aw_C X RX6 cX6_ungear 2 2 0 0 := C
  unfold FX6_ungear at hF
  refine aw_aload_0 C dX6_ungear_0 ?_
  refine aw_iload_1 C dX6_ungear_1 ?_
  refine bw_V1i C dX6_ungear_2 kyX6_isPart lX6_69 kiX6_isPart kvX6_isPart (aw_rv C rfl rfl) rfl rfl (ctX6_isPart a1 h _ rfl) ?_
  refine bw_if_ne (tgt := 11) C dX6_ungear_5 (by decide) hF (fun hF => ?_) (fun hF => ?_)
  · refine aw_aload_0 C dX6_ungear_11 ?_
    refine aw_iload_1 C dX6_ungear_12 ?_
    refine aw_iconst C dX6_ungear_13 li_4 ?_
    obtain ⟨q1, e2, hF⟩ := bw_bind hF
    refine bw_V2i C dX6_ungear_14 kyX6_at lX6_77 kiX6_at kvX6_at (aw_rv C rfl rfl) rfl rfl (ctX6_at a1 (4 : Int32) h q1 e2) ?_
    refine bw_if_ne (tgt := 23) C dX6_ungear_17 (by decide) hF (fun hF => ?_) (fun hF => ?_)
    · refine aw_aload_0 C dX6_ungear_23 ?_
      refine aw_iload_1 C dX6_ungear_24 ?_
      refine aw_iconst C dX6_ungear_25 li_4 ?_
      refine aw_aload_0 C dX6_ungear_26 ?_
      refine aw_iload_1 C dX6_ungear_27 ?_
      refine aw_iconst C dX6_ungear_28 li_4 ?_
      obtain ⟨q3, e4, hF⟩ := bw_bind hF
      refine bw_V2i C dX6_ungear_29 kyX6_at lX6_77 kiX6_at kvX6_at (aw_rv C rfl rfl) rfl rfl (ctX6_at a1 (4 : Int32) h q3 e4) ?_
      refine aw_iconst C dX6_ungear_32 li_1 ?_
      refine aw_isub C dX6_ungear_33 ?_
      obtain ⟨q5, e6, hF⟩ := bw_bind hF
      refine bw_V3v C dX6_ungear_34 kyX6_lays lX6_65 kiX6_lays kvX6_lays (aw_rv C rfl rfl) rfl rfl (ctX6_lays a1 (4 : Int32) (q3 - (1 : Int32)) h q5 e6) ?_
      refine aw_aload_0 C dX6_ungear_37 ?_
      refine aw_iload_1 C dX6_ungear_38 ?_
      refine aw_iconst C dX6_ungear_39 li_4 ?_
      obtain ⟨q7, e8, hF⟩ := bw_bind hF
      refine bw_V2i C dX6_ungear_40 kyX6_at lX6_77 kiX6_at kvX6_at (aw_rv C rfl rfl) rfl rfl (ctX6_at a1 (4 : Int32) q5 q7 e8) ?_
      obtain rfl := Option.some.inj hF
      exact aw_iret C E dX6_ungear_43 rfl rfl (bw_ret rfl)
    · refine aw_bipush C dX6_ungear_20 lb_m3 ?_
      obtain rfl := Option.some.inj hF
      exact aw_iret C E dX6_ungear_22 rfl rfl (bw_ret rfl)
  · refine aw_bipush C dX6_ungear_8 lb_m2 ?_
    obtain rfl := Option.some.inj hF
    exact aw_iret C E dX6_ungear_10 rfl rfl (bw_ret rfl)
def FX6_shaft (a1 : Int32) (h : aw_H) : Option (Int32 × aw_H) :=
  (if (FX6_isIn ((a1).toInt64) (1 : Int64) (999 : Int64)) = 0 then some ((-2 : Int32), h) else some ((h.1 72 67), (aw_sI h 72 67 a1)))
set_option maxRecDepth 100000 in
set_option maxHeartbeats 4000000 in
theorem ctX6_shaft (a1 : Int32) (h : aw_H) (y : Int32 × aw_H) (hF : FX6_shaft a1 h = some y) : Ct 1 0 0 yX6_shaft cX6_shaft 3 (some .int) [.ref 71, .int a1] wL wR h (aw_D (some (.int y.1)) y.2) := by
  refine Ct.of (ls0 := [.ref 71, .int a1, .retAddr 0]) (by decide +kernel) rfl rfl (fun X C E hnm => ?_)
  have C : aw_C X RX6 cX6_shaft 3 1 0 0 := C
  unfold FX6_shaft at hF
  refine aw_iload_1 C dX6_shaft_0 ?_
  refine aw_i2l C dX6_shaft_1 ?_
  refine aw_lconst C dX6_shaft_2 ll_1 ?_
  refine aw_ldc2 C dX6_shaft_3 nX6_57 ?_
  refine bw_S3i C dX6_shaft_6 kyX6_isIn lX6_49 ksX6_isIn rfl rfl (ctX6_isIn ((a1).toInt64) (1 : Int64) (999 : Int64) h _ rfl) ?_
  refine bw_if_ne (tgt := 15) C dX6_shaft_9 (by decide) hF (fun hF => ?_) (fun hF => ?_)
  · refine aw_aload_0 C dX6_shaft_15 ?_
    refine aw_getR C dX6_shaft_16 fX6_11 gX6_0 rfl rfl ?_
    refine aw_bipush C dX6_shaft_19 lb_67 ?_
    refine aw_iald C dX6_shaft_21 rfl (aw_ixk (k := 67) (n := 69) rfl rfl) ?_
    refine aw_istore_2 C dX6_shaft_22 rfl rfl ?_
    refine aw_aload_0 C dX6_shaft_23 ?_
    refine aw_getR C dX6_shaft_24 fX6_11 gX6_0 rfl rfl ?_
    refine aw_bipush C dX6_shaft_27 lb_67 ?_
    refine aw_iload_1 C dX6_shaft_29 ?_
    refine aw_iast C dX6_shaft_30 rfl (aw_ixk (k := 67) (n := 69) rfl rfl) ?_
    refine aw_iload_2 C dX6_shaft_31 ?_
    obtain rfl := Option.some.inj hF
    exact aw_iret C E dX6_shaft_32 rfl rfl (bw_ret rfl)
  · refine aw_bipush C dX6_shaft_12 lb_m2 ?_
    obtain rfl := Option.some.inj hF
    exact aw_iret C E dX6_shaft_14 rfl rfl (bw_ret rfl)
def FX6_becomes (a1 : Int32) (a2 : Int32) (a3 : Int32) (h : aw_H) : Option (Int32 × aw_H) :=
  (if (FX6_isPart a1 h) = 0 then some ((-2 : Int32), h) else (if (FX6_mayBe a2 a3) = 0 then some ((-2 : Int32), h) else ((FX6_at a1 a2 h).bind (fun q1 => ((FX6_lays a1 a2 a3 h).bind (fun q3 => some (q1, q3)))))))
set_option maxRecDepth 100000 in
set_option maxHeartbeats 4000000 in
theorem ctX6_becomes (a1 : Int32) (a2 : Int32) (a3 : Int32) (h : aw_H) (y : Int32 × aw_H) (hF : FX6_becomes a1 a2 a3 h = some y) : Ct 2 0 0 yX6_becomes cX6_becomes 5 (some .int) [.ref 71, .int a1, .int a2, .int a3] wL wR h (aw_D (some (.int y.1)) y.2) := by
  refine Ct.of (ls0 := [.ref 71, .int a1, .int a2, .int a3, .retAddr 0]) (by decide +kernel) rfl rfl (fun X C E hnm => ?_)
  have C : aw_C X RX6 cX6_becomes 5 2 0 0 := C
  unfold FX6_becomes at hF
  refine aw_aload_0 C dX6_becomes_0 ?_
  refine aw_iload_1 C dX6_becomes_1 ?_
  refine bw_V1i C dX6_becomes_2 kyX6_isPart lX6_69 kiX6_isPart kvX6_isPart (aw_rv C rfl rfl) rfl rfl (ctX6_isPart a1 h _ rfl) ?_
  refine bw_if_eq (tgt := 16) C dX6_becomes_5 (by decide) hF (fun hF => ?_) (fun hF => ?_)
  · refine aw_bipush C dX6_becomes_16 lb_m2 ?_
    obtain rfl := Option.some.inj hF
    exact aw_iret C E dX6_becomes_18 rfl rfl (bw_ret rfl)
  · refine aw_iload_2 C dX6_becomes_8 ?_
    refine aw_iload_3 C dX6_becomes_9 ?_
    refine bw_S2i C dX6_becomes_10 kyX6_mayBe lX6_61 ksX6_mayBe rfl rfl (ctX6_mayBe a2 a3 h _ rfl) ?_
    refine bw_if_ne (tgt := 19) C dX6_becomes_13 (by decide) hF (fun hF => ?_) (fun hF => ?_)
    · refine aw_aload_0 C dX6_becomes_19 ?_
      refine aw_iload_1 C dX6_becomes_20 ?_
      refine aw_iload_2 C dX6_becomes_21 ?_
      obtain ⟨q1, e2, hF⟩ := bw_bind hF
      refine bw_V2i C dX6_becomes_22 kyX6_at lX6_77 kiX6_at kvX6_at (aw_rv C rfl rfl) rfl rfl (ctX6_at a1 a2 h q1 e2) ?_
      refine aw_istore_4 C dX6_becomes_25 rfl rfl ?_
      refine aw_aload_0 C dX6_becomes_27 ?_
      refine aw_iload_1 C dX6_becomes_28 ?_
      refine aw_iload_2 C dX6_becomes_29 ?_
      refine aw_iload_3 C dX6_becomes_30 ?_
      obtain ⟨q3, e4, hF⟩ := bw_bind hF
      refine bw_V3v C dX6_becomes_31 kyX6_lays lX6_65 kiX6_lays kvX6_lays (aw_rv C rfl rfl) rfl rfl (ctX6_lays a1 a2 a3 h q3 e4) ?_
      refine aw_iload_4 C dX6_becomes_34 ?_
      obtain rfl := Option.some.inj hF
      exact aw_iret C E dX6_becomes_36 rfl rfl (bw_ret rfl)
    · refine aw_bipush C dX6_becomes_16 lb_m2 ?_
      obtain rfl := Option.some.inj hF
      exact aw_iret C E dX6_becomes_18 rfl rfl (bw_ret rfl)
def FX6_set (a1 : Int32) (a2 : Int32) (a3 : Int32) (h : aw_H) : Option (Int32 × aw_H) :=
  (if (FX6_isIn ((a2).toInt64) (0 : Int64) (2 : Int64)) = 0 then some ((-2 : Int32), h) else ((FX6_becomes a1 (a2 + (1 : Int32)) a3 h).bind (fun q1 => some (q1.1, q1.2))))
set_option maxRecDepth 100000 in
set_option maxHeartbeats 4000000 in
theorem ctX6_set (a1 : Int32) (a2 : Int32) (a3 : Int32) (h : aw_H) (y : Int32 × aw_H) (hF : FX6_set a1 a2 a3 h = some y) : Ct 3 0 0 yX6_set cX6_set 4 (some .int) [.ref 71, .int a1, .int a2, .int a3] wL wR h (aw_D (some (.int y.1)) y.2) := by
  refine Ct.of (ls0 := [.ref 71, .int a1, .int a2, .int a3]) (by decide +kernel) rfl rfl (fun X C E hnm => ?_)
  have C : aw_C X RX6 cX6_set 4 3 0 0 := C
  unfold FX6_set at hF
  refine aw_iload_2 C dX6_set_0 ?_
  refine aw_i2l C dX6_set_1 ?_
  refine aw_lconst C dX6_set_2 ll_0 ?_
  refine aw_ldc2 C dX6_set_3 nX6_81 ?_
  refine bw_S3i C dX6_set_6 kyX6_isIn lX6_49 ksX6_isIn rfl rfl (ctX6_isIn ((a2).toInt64) (0 : Int64) (2 : Int64) h _ rfl) ?_
  refine bw_if_eq (tgt := 24) C dX6_set_9 (by decide) hF (fun hF => ?_) (fun hF => ?_)
  · refine aw_bipush C dX6_set_24 lb_m2 ?_
    obtain rfl := Option.some.inj hF
    exact aw_iret C E dX6_set_26 rfl rfl (bw_ret rfl)
  · refine aw_aload_0 C dX6_set_12 ?_
    refine aw_iload_1 C dX6_set_13 ?_
    refine aw_iload_2 C dX6_set_14 ?_
    refine aw_iconst C dX6_set_15 li_1 ?_
    refine aw_iadd C dX6_set_16 ?_
    refine aw_iload_3 C dX6_set_17 ?_
    obtain ⟨q1, e2, hF⟩ := bw_bind hF
    refine bw_V3i C dX6_set_18 kyX6_becomes lX6_83 kiX6_becomes kvX6_becomes (aw_rv C rfl rfl) rfl rfl (ctX6_becomes a1 (a2 + (1 : Int32)) a3 h q1 e2) ?_
    refine aw_goto (tgt := 26) C dX6_set_21 (by decide) ?_
    obtain rfl := Option.some.inj hF
    exact aw_iret C E dX6_set_26 rfl rfl (bw_ret rfl)
def FX6_kind (a1 : Int32) (a2 : Int32) (h : aw_H) : Option (Int32 × aw_H) :=
  ((FX6_becomes a1 (0 : Int32) a2 h).bind (fun q1 => some (q1.1, q1.2)))
set_option maxRecDepth 100000 in
set_option maxHeartbeats 4000000 in
theorem ctX6_kind (a1 : Int32) (a2 : Int32) (h : aw_H) (y : Int32 × aw_H) (hF : FX6_kind a1 a2 h = some y) : Ct 3 0 0 yX6_kind cX6_kind 3 (some .int) [.ref 71, .int a1, .int a2] wL wR h (aw_D (some (.int y.1)) y.2) := by
  refine Ct.of (ls0 := [.ref 71, .int a1, .int a2]) (by decide +kernel) rfl rfl (fun X C E hnm => ?_)
  have C : aw_C X RX6 cX6_kind 3 3 0 0 := C
  unfold FX6_kind at hF
  refine aw_aload_0 C dX6_kind_0 ?_
  refine aw_iload_1 C dX6_kind_1 ?_
  refine aw_iconst C dX6_kind_2 li_0 ?_
  refine aw_iload_2 C dX6_kind_3 ?_
  obtain ⟨q1, e2, hF⟩ := bw_bind hF
  refine bw_V3i C dX6_kind_4 kyX6_becomes lX6_83 kiX6_becomes kvX6_becomes (aw_rv C rfl rfl) rfl rfl (ctX6_becomes a1 (0 : Int32) a2 h q1 e2) ?_
  obtain rfl := Option.some.inj hF
  exact aw_iret C E dX6_kind_7 rfl rfl (bw_ret rfl)
def FX6_of (a1 : Int32) (a2 : Int32) (h : aw_H) : Option (Int32) :=
  (if (FX6_isPart a1 h) = 0 then some (-2 : Int32) else (if (FX6_isIn ((a2).toInt64) (0 : Int64) (4 : Int64)) = 0 then (if (FX6_isIn ((a2).toInt64) (10 : Int64) (12 : Int64)) = 0 then (if (FX6_isIn ((a2).toInt64) (20 : Int64) (22 : Int64)) = 0 then some (-2 : Int32) else ((FX6_at a1 (4 : Int32) h).bind (fun q7 => (if q7 ≤ (a2 - (a2 / (10 : Int32)) * (10 : Int32)) then some (-1 : Int32) else (if (20 : Int32) ≤ a2 then ((FX6_at a1 ((8 : Int32) + (a2 - (a2 / (10 : Int32)) * (10 : Int32))) h).bind (fun q9 => some q9)) else ((FX6_at a1 ((5 : Int32) + (a2 - (a2 / (10 : Int32)) * (10 : Int32))) h).bind (fun q11 => some q11))))))) else ((FX6_at a1 (4 : Int32) h).bind (fun q1 => (if q1 ≤ (a2 - (a2 / (10 : Int32)) * (10 : Int32)) then some (-1 : Int32) else (if (20 : Int32) ≤ a2 then ((FX6_at a1 ((8 : Int32) + (a2 - (a2 / (10 : Int32)) * (10 : Int32))) h).bind (fun q3 => some q3)) else ((FX6_at a1 ((5 : Int32) + (a2 - (a2 / (10 : Int32)) * (10 : Int32))) h).bind (fun q5 => some q5))))))) else ((FX6_at a1 a2 h).bind (fun q13 => some q13))))
set_option maxRecDepth 100000 in
set_option maxHeartbeats 4000000 in
theorem ctX6_of (a1 : Int32) (a2 : Int32) (h : aw_H) (y : Int32) (hF : FX6_of a1 a2 h = some y) : Ct 2 0 0 yX6_of cX6_of 4 (some .int) [.ref 71, .int a1, .int a2] wL wR h (aw_D (some (.int y)) h) := by
  refine Ct.of (ls0 := [.ref 71, .int a1, .int a2, .retAddr 0]) (by decide +kernel) rfl rfl (fun X C E hnm => ?_)
  have C : aw_C X RX6 cX6_of 4 2 0 0 := C
  unfold FX6_of at hF
  refine aw_aload_0 C dX6_of_0 ?_
  refine aw_iload_1 C dX6_of_1 ?_
  refine bw_V1i C dX6_of_2 kyX6_isPart lX6_69 kiX6_isPart kvX6_isPart (aw_rv C rfl rfl) rfl rfl (ctX6_isPart a1 h _ rfl) ?_
  refine bw_if_ne (tgt := 11) C dX6_of_5 (by decide) hF (fun hF => ?_) (fun hF => ?_)
  · refine aw_iload_2 C dX6_of_11 ?_
    refine aw_i2l C dX6_of_12 ?_
    refine aw_lconst C dX6_of_13 ll_0 ?_
    refine aw_ldc2 C dX6_of_14 nX6_87 ?_
    refine bw_S3i C dX6_of_17 kyX6_isIn lX6_49 ksX6_isIn rfl rfl (ctX6_isIn ((a2).toInt64) (0 : Int64) (4 : Int64) h _ rfl) ?_
    refine bw_if_eq (tgt := 30) C dX6_of_20 (by decide) hF (fun hF => ?_) (fun hF => ?_)
    · refine aw_iload_2 C dX6_of_30 ?_
      refine aw_i2l C dX6_of_31 ?_
      refine aw_ldc2 C dX6_of_32 nX6_89 ?_
      refine aw_ldc2 C dX6_of_35 nX6_91 ?_
      refine bw_S3i C dX6_of_38 kyX6_isIn lX6_49 ksX6_isIn rfl rfl (ctX6_isIn ((a2).toInt64) (10 : Int64) (12 : Int64) h _ rfl) ?_
      refine bw_if_ne (tgt := 61) C dX6_of_41 (by decide) hF (fun hF => ?_) (fun hF => ?_)
      · refine aw_iload_2 C dX6_of_61 ?_
        refine aw_bipush C dX6_of_62 lb_10 ?_
        refine aw_irem C dX6_of_64 (by decide) ?_
        refine aw_istore_3 C dX6_of_65 rfl rfl ?_
        refine aw_iload_3 C dX6_of_66 ?_
        refine aw_aload_0 C dX6_of_67 ?_
        refine aw_iload_1 C dX6_of_68 ?_
        refine aw_iconst C dX6_of_69 li_4 ?_
        obtain ⟨q1, e2, hF⟩ := bw_bind hF
        refine bw_V2i C dX6_of_70 kyX6_at lX6_77 kiX6_at kvX6_at (aw_rv C rfl rfl) rfl rfl (ctX6_at a1 (4 : Int32) h q1 e2) ?_
        refine bw_icmp_ge (tgt := 98) C dX6_of_73 (by decide) hF (fun hF => ?_) (fun hF => ?_)
        · refine aw_iconst C dX6_of_98 li_m1 ?_
          obtain rfl := Option.some.inj hF
          exact aw_iret C E dX6_of_99 rfl rfl (bw_ret rfl)
        · refine aw_aload_0 C dX6_of_76 ?_
          refine aw_iload_1 C dX6_of_77 ?_
          refine aw_iload_2 C dX6_of_78 ?_
          refine aw_bipush C dX6_of_79 lb_20 ?_
          refine bw_icmp_ge (tgt := 88) C dX6_of_81 (by decide) hF (fun hF => ?_) (fun hF => ?_)
          · refine aw_bipush C dX6_of_88 lb_8 ?_
            refine aw_iload_3 C dX6_of_90 ?_
            refine aw_iadd C dX6_of_91 ?_
            obtain ⟨q3, e4, hF⟩ := bw_bind hF
            refine bw_V2i C dX6_of_92 kyX6_at lX6_77 kiX6_at kvX6_at (aw_rv C rfl rfl) rfl rfl (ctX6_at a1 ((8 : Int32) + (a2 - (a2 / (10 : Int32)) * (10 : Int32))) h q3 e4) ?_
            refine aw_goto (tgt := 99) C dX6_of_95 (by decide) ?_
            obtain rfl := Option.some.inj hF
            exact aw_iret C E dX6_of_99 rfl rfl (bw_ret rfl)
          · refine aw_iconst C dX6_of_84 li_5 ?_
            refine aw_goto (tgt := 90) C dX6_of_85 (by decide) ?_
            refine aw_iload_3 C dX6_of_90 ?_
            refine aw_iadd C dX6_of_91 ?_
            obtain ⟨q5, e6, hF⟩ := bw_bind hF
            refine bw_V2i C dX6_of_92 kyX6_at lX6_77 kiX6_at kvX6_at (aw_rv C rfl rfl) rfl rfl (ctX6_at a1 ((5 : Int32) + (a2 - (a2 / (10 : Int32)) * (10 : Int32))) h q5 e6) ?_
            refine aw_goto (tgt := 99) C dX6_of_95 (by decide) ?_
            obtain rfl := Option.some.inj hF
            exact aw_iret C E dX6_of_99 rfl rfl (bw_ret rfl)
      · refine aw_iload_2 C dX6_of_44 ?_
        refine aw_i2l C dX6_of_45 ?_
        refine aw_ldc2 C dX6_of_46 nX6_93 ?_
        refine aw_ldc2 C dX6_of_49 nX6_95 ?_
        refine bw_S3i C dX6_of_52 kyX6_isIn lX6_49 ksX6_isIn rfl rfl (ctX6_isIn ((a2).toInt64) (20 : Int64) (22 : Int64) h _ rfl) ?_
        refine bw_if_ne (tgt := 61) C dX6_of_55 (by decide) hF (fun hF => ?_) (fun hF => ?_)
        · refine aw_iload_2 C dX6_of_61 ?_
          refine aw_bipush C dX6_of_62 lb_10 ?_
          refine aw_irem C dX6_of_64 (by decide) ?_
          refine aw_istore_3 C dX6_of_65 rfl rfl ?_
          refine aw_iload_3 C dX6_of_66 ?_
          refine aw_aload_0 C dX6_of_67 ?_
          refine aw_iload_1 C dX6_of_68 ?_
          refine aw_iconst C dX6_of_69 li_4 ?_
          obtain ⟨q7, e8, hF⟩ := bw_bind hF
          refine bw_V2i C dX6_of_70 kyX6_at lX6_77 kiX6_at kvX6_at (aw_rv C rfl rfl) rfl rfl (ctX6_at a1 (4 : Int32) h q7 e8) ?_
          refine bw_icmp_ge (tgt := 98) C dX6_of_73 (by decide) hF (fun hF => ?_) (fun hF => ?_)
          · refine aw_iconst C dX6_of_98 li_m1 ?_
            obtain rfl := Option.some.inj hF
            exact aw_iret C E dX6_of_99 rfl rfl (bw_ret rfl)
          · refine aw_aload_0 C dX6_of_76 ?_
            refine aw_iload_1 C dX6_of_77 ?_
            refine aw_iload_2 C dX6_of_78 ?_
            refine aw_bipush C dX6_of_79 lb_20 ?_
            refine bw_icmp_ge (tgt := 88) C dX6_of_81 (by decide) hF (fun hF => ?_) (fun hF => ?_)
            · refine aw_bipush C dX6_of_88 lb_8 ?_
              refine aw_iload_3 C dX6_of_90 ?_
              refine aw_iadd C dX6_of_91 ?_
              obtain ⟨q9, e10, hF⟩ := bw_bind hF
              refine bw_V2i C dX6_of_92 kyX6_at lX6_77 kiX6_at kvX6_at (aw_rv C rfl rfl) rfl rfl (ctX6_at a1 ((8 : Int32) + (a2 - (a2 / (10 : Int32)) * (10 : Int32))) h q9 e10) ?_
              refine aw_goto (tgt := 99) C dX6_of_95 (by decide) ?_
              obtain rfl := Option.some.inj hF
              exact aw_iret C E dX6_of_99 rfl rfl (bw_ret rfl)
            · refine aw_iconst C dX6_of_84 li_5 ?_
              refine aw_goto (tgt := 90) C dX6_of_85 (by decide) ?_
              refine aw_iload_3 C dX6_of_90 ?_
              refine aw_iadd C dX6_of_91 ?_
              obtain ⟨q11, e12, hF⟩ := bw_bind hF
              refine bw_V2i C dX6_of_92 kyX6_at lX6_77 kiX6_at kvX6_at (aw_rv C rfl rfl) rfl rfl (ctX6_at a1 ((5 : Int32) + (a2 - (a2 / (10 : Int32)) * (10 : Int32))) h q11 e12) ?_
              refine aw_goto (tgt := 99) C dX6_of_95 (by decide) ?_
              obtain rfl := Option.some.inj hF
              exact aw_iret C E dX6_of_99 rfl rfl (bw_ret rfl)
        · refine aw_bipush C dX6_of_58 lb_m2 ?_
          obtain rfl := Option.some.inj hF
          exact aw_iret C E dX6_of_60 rfl rfl (bw_ret rfl)
    · refine aw_aload_0 C dX6_of_23 ?_
      refine aw_iload_1 C dX6_of_24 ?_
      refine aw_iload_2 C dX6_of_25 ?_
      obtain ⟨q13, e14, hF⟩ := bw_bind hF
      refine bw_V2i C dX6_of_26 kyX6_at lX6_77 kiX6_at kvX6_at (aw_rv C rfl rfl) rfl rfl (ctX6_at a1 a2 h q13 e14) ?_
      obtain rfl := Option.some.inj hF
      exact aw_iret C E dX6_of_29 rfl rfl (bw_ret rfl)
  · refine aw_bipush C dX6_of_8 lb_m2 ?_
    obtain rfl := Option.some.inj hF
    exact aw_iret C E dX6_of_10 rfl rfl (bw_ret rfl)
def FX6_above (a1 : Int32) : Int32 :=
  (if a1 = (4 : Int32) then (1 : Int32) else (if a1 = (5 : Int32) then (3 : Int32) else (0 : Int32)))
set_option maxRecDepth 100000 in
set_option maxHeartbeats 4000000 in
theorem ctX6_above (a1 : Int32) (h : aw_H) (y : Int32) (hF : FX6_above a1 = y) : Ct 0 0 0 yX6_above cX6_above 1 (some .int) [.int a1] wL wR h (aw_D (some (.int y)) h) := by
  refine Ct.of (ls0 := [.int a1]) (by decide +kernel) rfl rfl (fun X C E hnm => ?_)
  have C : aw_C X RX6 cX6_above 1 0 0 0 := C
  unfold FX6_above at hF
  refine aw_iload_0 C dX6_above_0 ?_
  refine aw_iconst C dX6_above_1 li_4 ?_
  refine bw_icmp_ne (tgt := 9) C dX6_above_2 (by decide) hF (fun hF => ?_) (fun hF => ?_)
  · refine aw_iload_0 C dX6_above_9 ?_
    refine aw_iconst C dX6_above_10 li_5 ?_
    refine bw_icmp_ne (tgt := 18) C dX6_above_11 (by decide) hF (fun hF => ?_) (fun hF => ?_)
    · refine aw_iconst C dX6_above_18 li_0 ?_
      subst hF
      exact aw_iret C E dX6_above_19 rfl rfl (bw_ret rfl)
    · refine aw_iconst C dX6_above_14 li_3 ?_
      refine aw_goto (tgt := 19) C dX6_above_15 (by decide) ?_
      subst hF
      exact aw_iret C E dX6_above_19 rfl rfl (bw_ret rfl)
  · refine aw_iconst C dX6_above_5 li_1 ?_
    refine aw_goto (tgt := 19) C dX6_above_6 (by decide) ?_
    subst hF
    exact aw_iret C E dX6_above_19 rfl rfl (bw_ret rfl)
def BX6_taken_26 (a1 : Int32) (a2 : Int32) (h : aw_H) (u26 : Int32) : Option (Int32 ⊕ Int32) :=
  (if u26 = a2 then (if u26 = a2 then ((FX6_at a1 (3 : Int32) h).bind (fun q3 => some (Sum.inr q3))) else some (Sum.inr (-13 : Int32))) else (if u26 = 0 then (if u26 = a2 then ((FX6_at a1 (3 : Int32) h).bind (fun q5 => some (Sum.inr q5))) else some (Sum.inr (-13 : Int32))) else some (Sum.inl (FX6_above u26))))
def FX6_taken (n : Nat) (a1 : Int32) (a2 : Int32) (h : aw_H) : Option (Int32) :=
  (if (FX6_isPart a1 h) = 0 then some (-2 : Int32) else (if (FX6_mayBe (0 : Int32) a2) = 0 then some (-2 : Int32) else ((FX6_at a1 (0 : Int32) h).bind (fun q1 => aw_loop (BX6_taken_26 a1 a2 h) n q1))))
set_option maxRecDepth 100000 in
set_option maxHeartbeats 4000000 in
theorem ctX6_taken (n : Nat) (a1 : Int32) (a2 : Int32) (h : aw_H) (y : Int32) (hF : FX6_taken n a1 a2 h = some y) : Ct 2 0 0 yX6_taken cX6_taken 4 (some .int) [.ref 71, .int a1, .int a2] wL wR h (aw_D (some (.int y)) h) := by
  refine Ct.of (ls0 := [.ref 71, .int a1, .int a2, .retAddr 0]) (by decide +kernel) rfl rfl (fun X C E hnm => ?_)
  have C : aw_C X RX6 cX6_taken 4 2 0 0 := C
  unfold FX6_taken at hF
  refine aw_aload_0 C dX6_taken_0 ?_
  refine aw_iload_1 C dX6_taken_1 ?_
  refine bw_V1i C dX6_taken_2 kyX6_isPart lX6_69 kiX6_isPart kvX6_isPart (aw_rv C rfl rfl) rfl rfl (ctX6_isPart a1 h _ rfl) ?_
  refine bw_if_eq (tgt := 16) C dX6_taken_5 (by decide) hF (fun hF => ?_) (fun hF => ?_)
  · refine aw_bipush C dX6_taken_16 lb_m2 ?_
    obtain rfl := Option.some.inj hF
    exact aw_iret C E dX6_taken_18 rfl rfl (bw_ret rfl)
  · refine aw_iconst C dX6_taken_8 li_0 ?_
    refine aw_iload_2 C dX6_taken_9 ?_
    refine bw_S2i C dX6_taken_10 kyX6_mayBe lX6_61 ksX6_mayBe rfl rfl (ctX6_mayBe (0 : Int32) a2 h _ rfl) ?_
    refine bw_if_ne (tgt := 19) C dX6_taken_13 (by decide) hF (fun hF => ?_) (fun hF => ?_)
    · refine aw_aload_0 C dX6_taken_19 ?_
      refine aw_iload_1 C dX6_taken_20 ?_
      refine aw_iconst C dX6_taken_21 li_0 ?_
      obtain ⟨q1, e2, hF⟩ := bw_bind hF
      refine bw_V2i C dX6_taken_22 kyX6_at lX6_77 kiX6_at kvX6_at (aw_rv C rfl rfl) rfl rfl (ctX6_at a1 (0 : Int32) h q1 e2) ?_
      refine aw_istore_3 C dX6_taken_25 rfl rfl ?_
      refine aw_loop_rule (fun u26 : Int32 => AW X 4 26 [.ref 71, .int a1, .int a2, .int u26] [] wL wR h 0 0) (fun q => q = y) (fun u26 y26 hF hK => ?_) n q1 _ hF rfl
      unfold BX6_taken_26 at hF
      refine aw_iload_3 C dX6_taken_26 ?_
      refine aw_iload_2 C dX6_taken_27 ?_
      refine bw_icmp_eq (tgt := 43) C dX6_taken_28 (by decide) hF (fun hF => ?_) (fun hF => ?_)
      · refine aw_iload_3 C dX6_taken_43 ?_
        refine aw_iload_2 C dX6_taken_44 ?_
        refine bw_icmp_ne (tgt := 57) C dX6_taken_45 (by decide) hF (fun hF => ?_) (fun hF => ?_)
        · refine aw_bipush C dX6_taken_57 lb_m13 ?_
          obtain rfl := Option.some.inj hF
          have hK : _ = y := hK
          subst hK
          exact aw_iret C E dX6_taken_59 rfl rfl (bw_ret rfl)
        · refine aw_aload_0 C dX6_taken_48 ?_
          refine aw_iload_1 C dX6_taken_49 ?_
          refine aw_iconst C dX6_taken_50 li_3 ?_
          obtain ⟨q3, e4, hF⟩ := bw_bind hF
          refine bw_V2i C dX6_taken_51 kyX6_at lX6_77 kiX6_at kvX6_at (aw_rv C rfl rfl) rfl rfl (ctX6_at a1 (3 : Int32) h q3 e4) ?_
          refine aw_goto (tgt := 59) C dX6_taken_54 (by decide) ?_
          obtain rfl := Option.some.inj hF
          have hK : _ = y := hK
          subst hK
          exact aw_iret C E dX6_taken_59 rfl rfl (bw_ret rfl)
      · refine aw_iload_3 C dX6_taken_31 ?_
        refine bw_if_eq (tgt := 43) C dX6_taken_32 (by decide) hF (fun hF => ?_) (fun hF => ?_)
        · refine aw_iload_3 C dX6_taken_43 ?_
          refine aw_iload_2 C dX6_taken_44 ?_
          refine bw_icmp_ne (tgt := 57) C dX6_taken_45 (by decide) hF (fun hF => ?_) (fun hF => ?_)
          · refine aw_bipush C dX6_taken_57 lb_m13 ?_
            obtain rfl := Option.some.inj hF
            have hK : _ = y := hK
            subst hK
            exact aw_iret C E dX6_taken_59 rfl rfl (bw_ret rfl)
          · refine aw_aload_0 C dX6_taken_48 ?_
            refine aw_iload_1 C dX6_taken_49 ?_
            refine aw_iconst C dX6_taken_50 li_3 ?_
            obtain ⟨q5, e6, hF⟩ := bw_bind hF
            refine bw_V2i C dX6_taken_51 kyX6_at lX6_77 kiX6_at kvX6_at (aw_rv C rfl rfl) rfl rfl (ctX6_at a1 (3 : Int32) h q5 e6) ?_
            refine aw_goto (tgt := 59) C dX6_taken_54 (by decide) ?_
            obtain rfl := Option.some.inj hF
            have hK : _ = y := hK
            subst hK
            exact aw_iret C E dX6_taken_59 rfl rfl (bw_ret rfl)
        · refine aw_iload_3 C dX6_taken_35 ?_
          refine bw_S1i C dX6_taken_36 kyX6_above lX6_97 ksX6_above rfl rfl (ctX6_above u26 h _ rfl) ?_
          refine aw_istore_3 C dX6_taken_39 rfl rfl ?_
          refine aw_goto (tgt := 26) C dX6_taken_40 (by decide) ?_
          cases hF
          exact hK
    · refine aw_bipush C dX6_taken_16 lb_m2 ?_
      obtain rfl := Option.some.inj hF
      exact aw_iret C E dX6_taken_18 rfl rfl (bw_ret rfl)
def FX6_why (a1 : Int32) (a2 : Int32) : Int32 :=
  (if (a1 + a2) ≤ (300 : Int32) then (if ((6 : Int32) * a2) < a1 then (2 : Int32) else (if a2 ≤ ((6 : Int32) * a1) then (0 : Int32) else (2 : Int32))) else (1 : Int32))
set_option maxRecDepth 100000 in
set_option maxHeartbeats 4000000 in
theorem ctX6_why (a1 : Int32) (a2 : Int32) (h : aw_H) (y : Int32) (hF : FX6_why a1 a2 = y) : Ct 0 0 0 yX6_why cX6_why 2 (some .int) [.int a1, .int a2] wL wR h (aw_D (some (.int y)) h) := by
  refine Ct.of (ls0 := [.int a1, .int a2]) (by decide +kernel) rfl rfl (fun X C E hnm => ?_)
  have C : aw_C X RX6 cX6_why 2 0 0 0 := C
  unfold FX6_why at hF
  refine aw_iload_0 C dX6_why_0 ?_
  refine aw_iload_1 C dX6_why_1 ?_
  refine aw_iadd C dX6_why_2 ?_
  refine aw_sipush C dX6_why_3 ls_300 ?_
  refine bw_icmp_le (tgt := 11) C dX6_why_6 (by decide) hF (fun hF => ?_) (fun hF => ?_)
  · refine aw_iload_0 C dX6_why_11 ?_
    refine aw_bipush C dX6_why_12 lb_6 ?_
    refine aw_iload_1 C dX6_why_14 ?_
    refine aw_imul C dX6_why_15 ?_
    refine bw_icmp_gt (tgt := 27) C dX6_why_16 (by decide) hF (fun hF => ?_) (fun hF => ?_)
    · refine aw_iconst C dX6_why_27 li_2 ?_
      refine aw_goto (tgt := 32) C dX6_why_28 (by decide) ?_
      subst hF
      exact aw_iret C E dX6_why_32 rfl rfl (bw_ret rfl)
    · refine aw_iload_1 C dX6_why_19 ?_
      refine aw_bipush C dX6_why_20 lb_6 ?_
      refine aw_iload_0 C dX6_why_22 ?_
      refine aw_imul C dX6_why_23 ?_
      refine bw_icmp_le (tgt := 31) C dX6_why_24 (by decide) hF (fun hF => ?_) (fun hF => ?_)
      · refine aw_iconst C dX6_why_31 li_0 ?_
        subst hF
        exact aw_iret C E dX6_why_32 rfl rfl (bw_ret rfl)
      · refine aw_iconst C dX6_why_27 li_2 ?_
        refine aw_goto (tgt := 32) C dX6_why_28 (by decide) ?_
        subst hF
        exact aw_iret C E dX6_why_32 rfl rfl (bw_ret rfl)
  · refine aw_iconst C dX6_why_9 li_1 ?_
    subst hF
    exact aw_iret C E dX6_why_10 rfl rfl (bw_ret rfl)
def BX6_jamOf_2 (a1 : Int32) (h : aw_H) (u2 : Int32) : Option (Int32 ⊕ Int32) :=
  ((FX6_at a1 (4 : Int32) h).bind (fun q1 => (if q1 ≤ u2 then some (Sum.inr (-1 : Int32)) else ((FX6_at a1 ((5 : Int32) + u2) h).bind (fun q3 => ((FX6_at a1 ((8 : Int32) + u2) h).bind (fun q5 => (if (FX6_why q3 q5) = 0 then some (Sum.inl (u2 + (1 : Int32))) else some (Sum.inr u2)))))))))
def FX6_jamOf (n : Nat) (a1 : Int32) (h : aw_H) : Option (Int32) :=
  aw_loop (BX6_jamOf_2 a1 h) n (0 : Int32)
set_option maxRecDepth 100000 in
set_option maxHeartbeats 4000000 in
theorem ctX6_jamOf (n : Nat) (a1 : Int32) (h : aw_H) (y : Int32) (hF : FX6_jamOf n a1 h = some y) : Ct 1 0 0 yX6_jamOf cX6_jamOf 3 (some .int) [.ref 71, .int a1] wL wR h (aw_D (some (.int y)) h) := by
  refine Ct.of (ls0 := [.ref 71, .int a1, .retAddr 0]) (by decide +kernel) rfl rfl (fun X C E hnm => ?_)
  have C : aw_C X RX6 cX6_jamOf 3 1 0 0 := C
  unfold FX6_jamOf at hF
  refine aw_iconst C dX6_jamOf_0 li_0 ?_
  refine aw_istore_2 C dX6_jamOf_1 rfl rfl ?_
  refine aw_loop_rule (fun u2 : Int32 => AW X 3 2 [.ref 71, .int a1, .int u2] [] wL wR h 0 0) (fun q => q = y) (fun u2 y2 hF hK => ?_) n (0 : Int32) _ hF rfl
  unfold BX6_jamOf_2 at hF
  refine aw_iload_2 C dX6_jamOf_2 ?_
  refine aw_aload_0 C dX6_jamOf_3 ?_
  refine aw_iload_1 C dX6_jamOf_4 ?_
  refine aw_iconst C dX6_jamOf_5 li_4 ?_
  obtain ⟨q1, e2, hF⟩ := bw_bind hF
  refine bw_V2i C dX6_jamOf_6 kyX6_at lX6_77 kiX6_at kvX6_at (aw_rv C rfl rfl) rfl rfl (ctX6_at a1 (4 : Int32) h q1 e2) ?_
  refine bw_icmp_ge (tgt := 43) C dX6_jamOf_9 (by decide) hF (fun hF => ?_) (fun hF => ?_)
  · refine aw_iconst C dX6_jamOf_43 li_m1 ?_
    obtain rfl := Option.some.inj hF
    have hK : _ = y := hK
    subst hK
    exact aw_iret C E dX6_jamOf_44 rfl rfl (bw_ret rfl)
  · refine aw_aload_0 C dX6_jamOf_12 ?_
    refine aw_iload_1 C dX6_jamOf_13 ?_
    refine aw_iconst C dX6_jamOf_14 li_5 ?_
    refine aw_iload_2 C dX6_jamOf_15 ?_
    refine aw_iadd C dX6_jamOf_16 ?_
    obtain ⟨q3, e4, hF⟩ := bw_bind hF
    refine bw_V2i C dX6_jamOf_17 kyX6_at lX6_77 kiX6_at kvX6_at (aw_rv C rfl rfl) rfl rfl (ctX6_at a1 ((5 : Int32) + u2) h q3 e4) ?_
    refine aw_aload_0 C dX6_jamOf_20 ?_
    refine aw_iload_1 C dX6_jamOf_21 ?_
    refine aw_bipush C dX6_jamOf_22 lb_8 ?_
    refine aw_iload_2 C dX6_jamOf_24 ?_
    refine aw_iadd C dX6_jamOf_25 ?_
    obtain ⟨q5, e6, hF⟩ := bw_bind hF
    refine bw_V2i C dX6_jamOf_26 kyX6_at lX6_77 kiX6_at kvX6_at (aw_rv C rfl rfl) rfl rfl (ctX6_at a1 ((8 : Int32) + u2) h q5 e6) ?_
    refine bw_S2i C dX6_jamOf_29 kyX6_why lX6_101 ksX6_why rfl rfl (ctX6_why q3 q5 h _ rfl) ?_
    refine bw_if_eq (tgt := 37) C dX6_jamOf_32 (by decide) hF (fun hF => ?_) (fun hF => ?_)
    · refine aw_iinc_2 C dX6_jamOf_37 li_1 rfl rfl ?_
      refine aw_goto (tgt := 2) C dX6_jamOf_40 (by decide) ?_
      cases hF
      exact hK
    · refine aw_iload_2 C dX6_jamOf_35 ?_
      obtain rfl := Option.some.inj hF
      have hK : _ = y := hK
      subst hK
      exact aw_iret C E dX6_jamOf_36 rfl rfl (bw_ret rfl)
def FX6_jam (n : Nat) (a1 : Int32) (a2 : Int32) (h : aw_H) : Option (Int32) :=
  (if (FX6_isPart a1 h) = 0 then some (-2 : Int32) else (if (FX6_isIn ((a2).toInt64) (0 : Int64) (3 : Int64)) = 0 then some (-2 : Int32) else ((FX6_jamOf n a1 h).bind (fun q1 => (if q1 = (-1 : Int32) then (if a2 = 0 then some (-1 : Int32) else (if a2 = (3 : Int32) then some (-1 : Int32) else some (0 : Int32))) else ((FX6_at a1 ((5 : Int32) + q1) h).bind (fun q3 => ((FX6_at a1 ((8 : Int32) + q1) h).bind (fun q5 => (if a2 = 0 then some q1 else (if a2 = (1 : Int32) then some (FX6_why q3 q5) else (if a2 = (2 : Int32) then some (2 : Int32) else some (FJ9_max_7cf53 q3 q5)))))))))))))
set_option maxRecDepth 100000 in
set_option maxHeartbeats 4000000 in
theorem ctX6_jam (n : Nat) (a1 : Int32) (a2 : Int32) (h : aw_H) (y : Int32) (hF : FX6_jam n a1 a2 h = some y) : Ct 2 0 0 yX6_jam cX6_jam 6 (some .int) [.ref 71, .int a1, .int a2] wL wR h (aw_D (some (.int y)) h) := by
  refine Ct.of (ls0 := [.ref 71, .int a1, .int a2, .retAddr 0, .retAddr 0, .retAddr 0]) (by decide +kernel) rfl rfl (fun X C E hnm => ?_)
  have C : aw_C X RX6 cX6_jam 6 2 0 0 := C
  unfold FX6_jam at hF
  refine aw_aload_0 C dX6_jam_0 ?_
  refine aw_iload_1 C dX6_jam_1 ?_
  refine bw_V1i C dX6_jam_2 kyX6_isPart lX6_69 kiX6_isPart kvX6_isPart (aw_rv C rfl rfl) rfl rfl (ctX6_isPart a1 h _ rfl) ?_
  refine bw_if_eq (tgt := 20) C dX6_jam_5 (by decide) hF (fun hF => ?_) (fun hF => ?_)
  · refine aw_bipush C dX6_jam_20 lb_m2 ?_
    obtain rfl := Option.some.inj hF
    exact aw_iret C E dX6_jam_22 rfl rfl (bw_ret rfl)
  · refine aw_iload_2 C dX6_jam_8 ?_
    refine aw_i2l C dX6_jam_9 ?_
    refine aw_lconst C dX6_jam_10 ll_0 ?_
    refine aw_ldc2 C dX6_jam_11 nX6_104 ?_
    refine bw_S3i C dX6_jam_14 kyX6_isIn lX6_49 ksX6_isIn rfl rfl (ctX6_isIn ((a2).toInt64) (0 : Int64) (3 : Int64) h _ rfl) ?_
    refine bw_if_ne (tgt := 23) C dX6_jam_17 (by decide) hF (fun hF => ?_) (fun hF => ?_)
    · refine aw_aload_0 C dX6_jam_23 ?_
      refine aw_iload_1 C dX6_jam_24 ?_
      obtain ⟨q1, e2, hF⟩ := bw_bind hF
      refine bw_V1i C dX6_jam_25 kyX6_jamOf lX6_106 kiX6_jamOf kvX6_jamOf (aw_rv C rfl rfl) rfl rfl (ctX6_jamOf n a1 h q1 e2) ?_
      refine aw_istore_3 C dX6_jam_28 rfl rfl ?_
      refine aw_iload_3 C dX6_jam_29 ?_
      refine aw_iconst C dX6_jam_30 li_m1 ?_
      refine bw_icmp_ne (tgt := 49) C dX6_jam_31 (by decide) hF (fun hF => ?_) (fun hF => ?_)
      · refine aw_aload_0 C dX6_jam_49 ?_
        refine aw_iload_1 C dX6_jam_50 ?_
        refine aw_iconst C dX6_jam_51 li_5 ?_
        refine aw_iload_3 C dX6_jam_52 ?_
        refine aw_iadd C dX6_jam_53 ?_
        obtain ⟨q3, e4, hF⟩ := bw_bind hF
        refine bw_V2i C dX6_jam_54 kyX6_at lX6_77 kiX6_at kvX6_at (aw_rv C rfl rfl) rfl rfl (ctX6_at a1 ((5 : Int32) + q1) h q3 e4) ?_
        refine aw_istore_4 C dX6_jam_57 rfl rfl ?_
        refine aw_aload_0 C dX6_jam_59 ?_
        refine aw_iload_1 C dX6_jam_60 ?_
        refine aw_bipush C dX6_jam_61 lb_8 ?_
        refine aw_iload_3 C dX6_jam_63 ?_
        refine aw_iadd C dX6_jam_64 ?_
        obtain ⟨q5, e6, hF⟩ := bw_bind hF
        refine bw_V2i C dX6_jam_65 kyX6_at lX6_77 kiX6_at kvX6_at (aw_rv C rfl rfl) rfl rfl (ctX6_at a1 ((8 : Int32) + q1) h q5 e6) ?_
        refine aw_istore_5 C dX6_jam_68 rfl rfl ?_
        refine aw_iload_2 C dX6_jam_70 ?_
        refine bw_if_ne (tgt := 78) C dX6_jam_71 (by decide) hF (fun hF => ?_) (fun hF => ?_)
        · refine aw_iload_2 C dX6_jam_78 ?_
          refine aw_iconst C dX6_jam_79 li_1 ?_
          refine bw_icmp_ne (tgt := 93) C dX6_jam_80 (by decide) hF (fun hF => ?_) (fun hF => ?_)
          · refine aw_iload_2 C dX6_jam_93 ?_
            refine aw_iconst C dX6_jam_94 li_2 ?_
            refine bw_icmp_ne (tgt := 102) C dX6_jam_95 (by decide) hF (fun hF => ?_) (fun hF => ?_)
            · refine aw_iload_4 C dX6_jam_102 ?_
              refine aw_iload_5 C dX6_jam_104 ?_
              refine bw_max C dX6_jam_106 lX6_109 rfl rfl ?_
              obtain rfl := Option.some.inj hF
              exact aw_iret C E dX6_jam_109 rfl rfl (bw_ret rfl)
            · refine aw_iconst C dX6_jam_98 li_2 ?_
              refine aw_goto (tgt := 109) C dX6_jam_99 (by decide) ?_
              obtain rfl := Option.some.inj hF
              exact aw_iret C E dX6_jam_109 rfl rfl (bw_ret rfl)
          · refine aw_iload_4 C dX6_jam_83 ?_
            refine aw_iload_5 C dX6_jam_85 ?_
            refine bw_S2i C dX6_jam_87 kyX6_why lX6_101 ksX6_why rfl rfl (ctX6_why q3 q5 h _ rfl) ?_
            refine aw_goto (tgt := 109) C dX6_jam_90 (by decide) ?_
            obtain rfl := Option.some.inj hF
            exact aw_iret C E dX6_jam_109 rfl rfl (bw_ret rfl)
        · refine aw_iload_3 C dX6_jam_74 ?_
          refine aw_goto (tgt := 109) C dX6_jam_75 (by decide) ?_
          obtain rfl := Option.some.inj hF
          exact aw_iret C E dX6_jam_109 rfl rfl (bw_ret rfl)
      · refine aw_iload_2 C dX6_jam_34 ?_
        refine bw_if_eq (tgt := 43) C dX6_jam_35 (by decide) hF (fun hF => ?_) (fun hF => ?_)
        · refine aw_iconst C dX6_jam_43 li_m1 ?_
          refine aw_goto (tgt := 48) C dX6_jam_44 (by decide) ?_
          obtain rfl := Option.some.inj hF
          exact aw_iret C E dX6_jam_48 rfl rfl (bw_ret rfl)
        · refine aw_iload_2 C dX6_jam_38 ?_
          refine aw_iconst C dX6_jam_39 li_3 ?_
          refine bw_icmp_ne (tgt := 47) C dX6_jam_40 (by decide) hF (fun hF => ?_) (fun hF => ?_)
          · refine aw_iconst C dX6_jam_47 li_0 ?_
            obtain rfl := Option.some.inj hF
            exact aw_iret C E dX6_jam_48 rfl rfl (bw_ret rfl)
          · refine aw_iconst C dX6_jam_43 li_m1 ?_
            refine aw_goto (tgt := 48) C dX6_jam_44 (by decide) ?_
            obtain rfl := Option.some.inj hF
            exact aw_iret C E dX6_jam_48 rfl rfl (bw_ret rfl)
    · refine aw_bipush C dX6_jam_20 lb_m2 ?_
      obtain rfl := Option.some.inj hF
      exact aw_iret C E dX6_jam_22 rfl rfl (bw_ret rfl)
def BX6_divisor_12 (u12 : (Int64 × Int64)) : Option ((Int64 × Int64) ⊕ Int64) :=
  (if (lg_cmp u12.2 (0 : Int64)) = 0 then some (Sum.inr u12.1) else (if u12.2 = 0 then none else some (Sum.inl (u12.2, (u12.1 - (u12.1 / u12.2) * u12.2)))))
def FX6_divisor (n : Nat) (a1 : Int64) (a2 : Int64) : Option (Int64) :=
  aw_loop (BX6_divisor_12) n ((FJ9_abs_067f4 a1), (FJ9_abs_067f4 a2))
set_option maxRecDepth 100000 in
set_option maxHeartbeats 4000000 in
theorem ctX6_divisor (n : Nat) (a1 : Int64) (a2 : Int64) (h : aw_H) (y : Int64) (hF : FX6_divisor n a1 a2 = some y) : Ct 1 0 0 yX6_divisor cX6_divisor 10 (some .long) [.long a1, .long a2] wL wR h (aw_D (some (.long y)) h) := by
  refine Ct.of (ls0 := [.long a1, .retAddr 0, .long a2, .retAddr 0, .retAddr 0, .retAddr 0, .retAddr 0, .retAddr 0, .retAddr 0, .retAddr 0]) (by decide +kernel) rfl rfl (fun X C E hnm => ?_)
  have C : aw_C X RX6 cX6_divisor 10 1 0 0 := C
  unfold FX6_divisor at hF
  refine aw_lload_0 C dX6_divisor_0 ?_
  refine bw_abs C dX6_divisor_1 lX6_114 rfl rfl ?_
  refine aw_lstore_4 C dX6_divisor_4 rfl rfl ?_
  refine aw_lload_2 C dX6_divisor_6 ?_
  refine bw_abs C dX6_divisor_7 lX6_114 rfl rfl ?_
  refine aw_lstore_6 C dX6_divisor_10 rfl rfl ?_
  refine aw_weak (show aw_le [.retAddr 0, .retAddr 0, .retAddr 0, .retAddr 0, .long (FJ9_abs_067f4 a1), .retAddr 0, .long (FJ9_abs_067f4 a2), .retAddr 0, .retAddr 0, .retAddr 0] [.long a1, .retAddr 0, .long a2, .retAddr 0, .long (FJ9_abs_067f4 a1), .retAddr 0, .long (FJ9_abs_067f4 a2), .retAddr 0, .retAddr 0, .retAddr 0] from ⟨Or.inl rfl, Or.inr rfl, Or.inl rfl, Or.inr rfl, Or.inr rfl, Or.inr rfl, Or.inr rfl, Or.inr rfl, Or.inr rfl, Or.inr rfl, trivial⟩) ?_
  refine aw_loop_rule (fun u12 : (Int64 × Int64) => AW X 10 12 [.retAddr 0, .retAddr 0, .retAddr 0, .retAddr 0, .long u12.1, .retAddr 0, .long u12.2, .retAddr 0, .retAddr 0, .retAddr 0] [] wL wR h 0 0) (fun q => q = y) (fun u12 y12 hF hK => ?_) n ((FJ9_abs_067f4 a1), (FJ9_abs_067f4 a2)) _ hF rfl
  unfold BX6_divisor_12 at hF
  refine aw_lload_6 C dX6_divisor_12 ?_
  refine aw_lconst C dX6_divisor_14 ll_0 ?_
  refine aw_lcmp C dX6_divisor_15 ?_
  refine bw_if_eq (tgt := 37) C dX6_divisor_16 (by decide) hF (fun hF => ?_) (fun hF => ?_)
  · refine aw_lload_4 C dX6_divisor_37 ?_
    obtain rfl := Option.some.inj hF
    have hK : _ = y := hK
    subst hK
    exact aw_lret C E dX6_divisor_39 rfl rfl (bw_ret rfl)
  · refine aw_lload_4 C dX6_divisor_19 ?_
    refine aw_lload_6 C dX6_divisor_21 ?_
    obtain ⟨s1, hF⟩ := bw_nz hF
    refine aw_lrem C dX6_divisor_23 s1 ?_
    refine aw_lstore_8 C dX6_divisor_24 rfl rfl ?_
    refine aw_lload_6 C dX6_divisor_26 ?_
    refine aw_lstore_4 C dX6_divisor_28 rfl rfl ?_
    refine aw_lload_8 C dX6_divisor_30 ?_
    refine aw_lstore_6 C dX6_divisor_32 rfl rfl ?_
    refine aw_goto (tgt := 12) C dX6_divisor_34 (by decide) ?_
    cases hF
    exact aw_weak (show aw_le [.retAddr 0, .retAddr 0, .retAddr 0, .retAddr 0, .long u12.2, .retAddr 0, .long (u12.1 - (u12.1 / u12.2) * u12.2), .retAddr 0, .retAddr 0, .retAddr 0] [.retAddr 0, .retAddr 0, .retAddr 0, .retAddr 0, .long u12.2, .retAddr 0, .long (u12.1 - (u12.1 / u12.2) * u12.2), .retAddr 0, .long (u12.1 - (u12.1 / u12.2) * u12.2), .retAddr 0] from ⟨Or.inr rfl, Or.inr rfl, Or.inr rfl, Or.inr rfl, Or.inr rfl, Or.inr rfl, Or.inr rfl, Or.inr rfl, Or.inl rfl, Or.inr rfl, trivial⟩) hK
def FX6_lowest (n : Nat) (a1 : Int64) (a2 : Int64) (a3 : Int32) : Option (Int64) :=
  ((FX6_divisor n a1 a2).bind (fun q1 => (if a3 = 0 then (if q1 = 0 then none else some (a1 / q1)) else (if q1 = 0 then none else some (a2 / q1)))))
set_option maxRecDepth 100000 in
set_option maxHeartbeats 4000000 in
theorem ctX6_lowest (n : Nat) (a1 : Int64) (a2 : Int64) (a3 : Int32) (h : aw_H) (y : Int64) (hF : FX6_lowest n a1 a2 a3 = some y) : Ct 2 0 0 yX6_lowest cX6_lowest 7 (some .long) [.long a1, .long a2, .int a3] wL wR h (aw_D (some (.long y)) h) := by
  refine Ct.of (ls0 := [.long a1, .retAddr 0, .long a2, .retAddr 0, .int a3, .retAddr 0, .retAddr 0]) (by decide +kernel) rfl rfl (fun X C E hnm => ?_)
  have C : aw_C X RX6 cX6_lowest 7 2 0 0 := C
  unfold FX6_lowest at hF
  refine aw_lload_0 C dX6_lowest_0 ?_
  refine aw_lload_2 C dX6_lowest_1 ?_
  obtain ⟨q1, e2, hF⟩ := bw_bind hF
  refine bw_S2l C dX6_lowest_2 kyX6_divisor lX6_118 ksX6_divisor rfl rfl (ctX6_divisor n a1 a2 h q1 e2) ?_
  refine aw_lstore_5 C dX6_lowest_5 rfl rfl ?_
  refine aw_iload_4 C dX6_lowest_7 ?_
  refine bw_if_ne (tgt := 19) C dX6_lowest_9 (by decide) hF (fun hF => ?_) (fun hF => ?_)
  · refine aw_lload_2 C dX6_lowest_19 ?_
    refine aw_lload_5 C dX6_lowest_20 ?_
    obtain ⟨s3, hF⟩ := bw_nz hF
    refine aw_ldiv C dX6_lowest_22 s3 ?_
    obtain rfl := Option.some.inj hF
    exact aw_lret C E dX6_lowest_23 rfl rfl (bw_ret rfl)
  · refine aw_lload_0 C dX6_lowest_12 ?_
    refine aw_lload_5 C dX6_lowest_13 ?_
    obtain ⟨s4, hF⟩ := bw_nz hF
    refine aw_ldiv C dX6_lowest_15 s4 ?_
    refine aw_goto (tgt := 23) C dX6_lowest_16 (by decide) ?_
    obtain rfl := Option.some.inj hF
    exact aw_lret C E dX6_lowest_23 rfl rfl (bw_ret rfl)
def BX6_speedAbove_25 (a1 : Int32) (h : aw_H) (u25 : (Int64 × Int32)) : Option ((Int64 × Int32) ⊕ Int64) :=
  ((FX6_at a1 (4 : Int32) h).bind (fun q3 => (if q3 ≤ u25.2 then some (Sum.inr u25.1) else ((FX6_at a1 ((5 : Int32) + u25.2) h).bind (fun q5 => some (Sum.inl ((u25.1 * (q5).toInt64), (u25.2 + (1 : Int32)))))))))
def BX6_speedAbove_25' (a1 : Int32) (h : aw_H) (u25 : (Int64 × Int32)) : Option ((Int64 × Int32) ⊕ Int64) :=
  ((FX6_at a1 (4 : Int32) h).bind (fun q7 => (if q7 ≤ u25.2 then some (Sum.inr u25.1) else ((FX6_at a1 ((5 : Int32) + u25.2) h).bind (fun q9 => some (Sum.inl ((u25.1 * (q9).toInt64), (u25.2 + (1 : Int32)))))))))
def FX6_speedAbove (n : Nat) (a1 : Int32) (h : aw_H) : Option (Int64) :=
  ((FX6_jamOf n a1 h).bind (fun q1 => (if q1 = (-1 : Int32) then aw_loop (BX6_speedAbove_25' a1 h) n (((h.1 72 67)).toInt64, (0 : Int32)) else aw_loop (BX6_speedAbove_25 a1 h) n ((0 : Int64), (0 : Int32)))))
set_option maxRecDepth 100000 in
set_option maxHeartbeats 4000000 in
theorem ctX6_speedAbove (n : Nat) (a1 : Int32) (h : aw_H) (y : Int64) (hF : FX6_speedAbove n a1 h = some y) : Ct 2 0 0 yX6_speedAbove cX6_speedAbove 5 (some .long) [.ref 71, .int a1] wL wR h (aw_D (some (.long y)) h) := by
  refine Ct.of (ls0 := [.ref 71, .int a1, .retAddr 0, .retAddr 0, .retAddr 0]) (by decide +kernel) rfl rfl (fun X C E hnm => ?_)
  have C : aw_C X RX6 cX6_speedAbove 5 2 0 0 := C
  unfold FX6_speedAbove at hF
  refine aw_aload_0 C dX6_speedAbove_0 ?_
  refine aw_iload_1 C dX6_speedAbove_1 ?_
  obtain ⟨q1, e2, hF⟩ := bw_bind hF
  refine bw_V1i C dX6_speedAbove_2 kyX6_jamOf lX6_106 kiX6_jamOf kvX6_jamOf (aw_rv C rfl rfl) rfl rfl (ctX6_jamOf n a1 h q1 e2) ?_
  refine aw_iconst C dX6_speedAbove_5 li_m1 ?_
  refine bw_icmp_ne (tgt := 20) C dX6_speedAbove_6 (by decide) hF (fun hF => ?_) (fun hF => ?_)
  · refine aw_lconst C dX6_speedAbove_20 ll_0 ?_
    refine aw_lstore_2 C dX6_speedAbove_21 rfl rfl ?_
    refine aw_iconst C dX6_speedAbove_22 li_0 ?_
    refine aw_istore_4 C dX6_speedAbove_23 rfl rfl ?_
    refine aw_loop_rule (fun u25 : (Int64 × Int32) => AW X 5 25 [.ref 71, .int a1, .long u25.1, .retAddr 0, .int u25.2] [] wL wR h 0 0) (fun q => q = y) (fun u25 y25 hF hK => ?_) n ((0 : Int64), (0 : Int32)) _ hF rfl
    unfold BX6_speedAbove_25 at hF
    refine aw_iload_4 C dX6_speedAbove_25 ?_
    refine aw_aload_0 C dX6_speedAbove_27 ?_
    refine aw_iload_1 C dX6_speedAbove_28 ?_
    refine aw_iconst C dX6_speedAbove_29 li_4 ?_
    obtain ⟨q3, e4, hF⟩ := bw_bind hF
    refine bw_V2i C dX6_speedAbove_30 kyX6_at lX6_77 kiX6_at kvX6_at (aw_rv C rfl rfl) rfl rfl (ctX6_at a1 (4 : Int32) h q3 e4) ?_
    refine bw_icmp_ge (tgt := 55) C dX6_speedAbove_33 (by decide) hF (fun hF => ?_) (fun hF => ?_)
    · refine aw_lload_2 C dX6_speedAbove_55 ?_
      obtain rfl := Option.some.inj hF
      have hK : _ = y := hK
      subst hK
      exact aw_lret C E dX6_speedAbove_56 rfl rfl (bw_ret rfl)
    · refine aw_lload_2 C dX6_speedAbove_36 ?_
      refine aw_aload_0 C dX6_speedAbove_37 ?_
      refine aw_iload_1 C dX6_speedAbove_38 ?_
      refine aw_iconst C dX6_speedAbove_39 li_5 ?_
      refine aw_iload_4 C dX6_speedAbove_40 ?_
      refine aw_iadd C dX6_speedAbove_42 ?_
      obtain ⟨q5, e6, hF⟩ := bw_bind hF
      refine bw_V2i C dX6_speedAbove_43 kyX6_at lX6_77 kiX6_at kvX6_at (aw_rv C rfl rfl) rfl rfl (ctX6_at a1 ((5 : Int32) + u25.2) h q5 e6) ?_
      refine aw_i2l C dX6_speedAbove_46 ?_
      refine aw_lmul C dX6_speedAbove_47 ?_
      refine aw_lstore_2 C dX6_speedAbove_48 rfl rfl ?_
      refine aw_iinc_4 C dX6_speedAbove_49 li_1 rfl rfl ?_
      refine aw_goto (tgt := 25) C dX6_speedAbove_52 (by decide) ?_
      cases hF
      exact hK
  · refine aw_aload_0 C dX6_speedAbove_9 ?_
    refine aw_getR C dX6_speedAbove_10 fX6_11 gX6_0 rfl rfl ?_
    refine aw_bipush C dX6_speedAbove_13 lb_67 ?_
    refine aw_iald C dX6_speedAbove_15 rfl (aw_ixk (k := 67) (n := 69) rfl rfl) ?_
    refine aw_i2l C dX6_speedAbove_16 ?_
    refine aw_goto (tgt := 21) C dX6_speedAbove_17 (by decide) ?_
    refine aw_lstore_2 C dX6_speedAbove_21 rfl rfl ?_
    refine aw_iconst C dX6_speedAbove_22 li_0 ?_
    refine aw_istore_4 C dX6_speedAbove_23 rfl rfl ?_
    refine aw_loop_rule (fun u25 : (Int64 × Int32) => AW X 5 25 [.ref 71, .int a1, .long u25.1, .retAddr 0, .int u25.2] [] wL wR h 0 0) (fun q => q = y) (fun u25 y25 hF hK => ?_) n (((h.1 72 67)).toInt64, (0 : Int32)) _ hF rfl
    unfold BX6_speedAbove_25' at hF
    refine aw_iload_4 C dX6_speedAbove_25 ?_
    refine aw_aload_0 C dX6_speedAbove_27 ?_
    refine aw_iload_1 C dX6_speedAbove_28 ?_
    refine aw_iconst C dX6_speedAbove_29 li_4 ?_
    obtain ⟨q7, e8, hF⟩ := bw_bind hF
    refine bw_V2i C dX6_speedAbove_30 kyX6_at lX6_77 kiX6_at kvX6_at (aw_rv C rfl rfl) rfl rfl (ctX6_at a1 (4 : Int32) h q7 e8) ?_
    refine bw_icmp_ge (tgt := 55) C dX6_speedAbove_33 (by decide) hF (fun hF => ?_) (fun hF => ?_)
    · refine aw_lload_2 C dX6_speedAbove_55 ?_
      obtain rfl := Option.some.inj hF
      have hK : _ = y := hK
      subst hK
      exact aw_lret C E dX6_speedAbove_56 rfl rfl (bw_ret rfl)
    · refine aw_lload_2 C dX6_speedAbove_36 ?_
      refine aw_aload_0 C dX6_speedAbove_37 ?_
      refine aw_iload_1 C dX6_speedAbove_38 ?_
      refine aw_iconst C dX6_speedAbove_39 li_5 ?_
      refine aw_iload_4 C dX6_speedAbove_40 ?_
      refine aw_iadd C dX6_speedAbove_42 ?_
      obtain ⟨q9, e10, hF⟩ := bw_bind hF
      refine bw_V2i C dX6_speedAbove_43 kyX6_at lX6_77 kiX6_at kvX6_at (aw_rv C rfl rfl) rfl rfl (ctX6_at a1 ((5 : Int32) + u25.2) h q9 e10) ?_
      refine aw_i2l C dX6_speedAbove_46 ?_
      refine aw_lmul C dX6_speedAbove_47 ?_
      refine aw_lstore_2 C dX6_speedAbove_48 rfl rfl ?_
      refine aw_iinc_4 C dX6_speedAbove_49 li_1 rfl rfl ?_
      refine aw_goto (tgt := 25) C dX6_speedAbove_52 (by decide) ?_
      cases hF
      exact hK
def BX6_speedBelow_5 (a1 : Int32) (h : aw_H) (u5 : (Int64 × Int32)) : Option ((Int64 × Int32) ⊕ Int64) :=
  ((FX6_at a1 (4 : Int32) h).bind (fun q1 => (if q1 ≤ u5.2 then some (Sum.inr u5.1) else ((FX6_at a1 ((8 : Int32) + u5.2) h).bind (fun q3 => some (Sum.inl ((u5.1 * (q3).toInt64), (u5.2 + (1 : Int32)))))))))
def FX6_speedBelow (n : Nat) (a1 : Int32) (h : aw_H) : Option (Int64) :=
  aw_loop (BX6_speedBelow_5 a1 h) n ((1 : Int64), (0 : Int32))
set_option maxRecDepth 100000 in
set_option maxHeartbeats 4000000 in
theorem ctX6_speedBelow (n : Nat) (a1 : Int32) (h : aw_H) (y : Int64) (hF : FX6_speedBelow n a1 h = some y) : Ct 1 0 0 yX6_speedBelow cX6_speedBelow 5 (some .long) [.ref 71, .int a1] wL wR h (aw_D (some (.long y)) h) := by
  refine Ct.of (ls0 := [.ref 71, .int a1, .retAddr 0, .retAddr 0, .retAddr 0]) (by decide +kernel) rfl rfl (fun X C E hnm => ?_)
  have C : aw_C X RX6 cX6_speedBelow 5 1 0 0 := C
  unfold FX6_speedBelow at hF
  refine aw_lconst C dX6_speedBelow_0 ll_1 ?_
  refine aw_lstore_2 C dX6_speedBelow_1 rfl rfl ?_
  refine aw_iconst C dX6_speedBelow_2 li_0 ?_
  refine aw_istore_4 C dX6_speedBelow_3 rfl rfl ?_
  refine aw_loop_rule (fun u5 : (Int64 × Int32) => AW X 5 5 [.ref 71, .int a1, .long u5.1, .retAddr 0, .int u5.2] [] wL wR h 0 0) (fun q => q = y) (fun u5 y5 hF hK => ?_) n ((1 : Int64), (0 : Int32)) _ hF rfl
  unfold BX6_speedBelow_5 at hF
  refine aw_iload_4 C dX6_speedBelow_5 ?_
  refine aw_aload_0 C dX6_speedBelow_7 ?_
  refine aw_iload_1 C dX6_speedBelow_8 ?_
  refine aw_iconst C dX6_speedBelow_9 li_4 ?_
  obtain ⟨q1, e2, hF⟩ := bw_bind hF
  refine bw_V2i C dX6_speedBelow_10 kyX6_at lX6_77 kiX6_at kvX6_at (aw_rv C rfl rfl) rfl rfl (ctX6_at a1 (4 : Int32) h q1 e2) ?_
  refine bw_icmp_ge (tgt := 36) C dX6_speedBelow_13 (by decide) hF (fun hF => ?_) (fun hF => ?_)
  · refine aw_lload_2 C dX6_speedBelow_36 ?_
    obtain rfl := Option.some.inj hF
    have hK : _ = y := hK
    subst hK
    exact aw_lret C E dX6_speedBelow_37 rfl rfl (bw_ret rfl)
  · refine aw_lload_2 C dX6_speedBelow_16 ?_
    refine aw_aload_0 C dX6_speedBelow_17 ?_
    refine aw_iload_1 C dX6_speedBelow_18 ?_
    refine aw_bipush C dX6_speedBelow_19 lb_8 ?_
    refine aw_iload_4 C dX6_speedBelow_21 ?_
    refine aw_iadd C dX6_speedBelow_23 ?_
    obtain ⟨q3, e4, hF⟩ := bw_bind hF
    refine bw_V2i C dX6_speedBelow_24 kyX6_at lX6_77 kiX6_at kvX6_at (aw_rv C rfl rfl) rfl rfl (ctX6_at a1 ((8 : Int32) + u5.2) h q3 e4) ?_
    refine aw_i2l C dX6_speedBelow_27 ?_
    refine aw_lmul C dX6_speedBelow_28 ?_
    refine aw_lstore_2 C dX6_speedBelow_29 rfl rfl ?_
    refine aw_iinc_4 C dX6_speedBelow_30 li_1 rfl rfl ?_
    refine aw_goto (tgt := 5) C dX6_speedBelow_33 (by decide) ?_
    cases hF
    exact hK
def FX6_speed (n : Nat) (a1 : Int32) (a2 : Int32) (h : aw_H) : Option (Int64) :=
  (if (FX6_isPart a1 h) = 0 then some (-9223372036854775808 : Int64) else (if (FX6_isLine a2) = 0 then some (-9223372036854775808 : Int64) else ((FX6_speedAbove n a1 h).bind (fun q1 => ((FX6_speedBelow n a1 h).bind (fun q3 => ((FX6_lowest n q1 q3 a2).bind (fun q5 => some q5))))))))
set_option maxRecDepth 100000 in
set_option maxHeartbeats 4000000 in
theorem ctX6_speed (n : Nat) (a1 : Int32) (a2 : Int32) (h : aw_H) (y : Int64) (hF : FX6_speed n a1 a2 h = some y) : Ct 3 0 0 yX6_speed cX6_speed 3 (some .long) [.ref 71, .int a1, .int a2] wL wR h (aw_D (some (.long y)) h) := by
  refine Ct.of (ls0 := [.ref 71, .int a1, .int a2]) (by decide +kernel) rfl rfl (fun X C E hnm => ?_)
  have C : aw_C X RX6 cX6_speed 3 3 0 0 := C
  unfold FX6_speed at hF
  refine aw_aload_0 C dX6_speed_0 ?_
  refine aw_iload_1 C dX6_speed_1 ?_
  refine bw_V1i C dX6_speed_2 kyX6_isPart lX6_69 kiX6_isPart kvX6_isPart (aw_rv C rfl rfl) rfl rfl (ctX6_isPart a1 h _ rfl) ?_
  refine bw_if_eq (tgt := 32) C dX6_speed_5 (by decide) hF (fun hF => ?_) (fun hF => ?_)
  · refine aw_ldc2 C dX6_speed_32 nX6_136 ?_
    obtain rfl := Option.some.inj hF
    exact aw_lret C E dX6_speed_35 rfl rfl (bw_ret rfl)
  · refine aw_iload_2 C dX6_speed_8 ?_
    refine bw_S1i C dX6_speed_9 kyX6_isLine lX6_122 ksX6_isLine rfl rfl (ctX6_isLine a2 h _ rfl) ?_
    refine bw_if_eq (tgt := 32) C dX6_speed_12 (by decide) hF (fun hF => ?_) (fun hF => ?_)
    · refine aw_ldc2 C dX6_speed_32 nX6_136 ?_
      obtain rfl := Option.some.inj hF
      exact aw_lret C E dX6_speed_35 rfl rfl (bw_ret rfl)
    · refine aw_aload_0 C dX6_speed_15 ?_
      refine aw_iload_1 C dX6_speed_16 ?_
      obtain ⟨q1, e2, hF⟩ := bw_bind hF
      refine bw_V1l C dX6_speed_17 kyX6_speedAbove lX6_125 kiX6_speedAbove kvX6_speedAbove (aw_rv C rfl rfl) rfl rfl (ctX6_speedAbove n a1 h q1 e2) ?_
      refine aw_aload_0 C dX6_speed_20 ?_
      refine aw_iload_1 C dX6_speed_21 ?_
      obtain ⟨q3, e4, hF⟩ := bw_bind hF
      refine bw_V1l C dX6_speed_22 kyX6_speedBelow lX6_129 kiX6_speedBelow kvX6_speedBelow (aw_rv C rfl rfl) rfl rfl (ctX6_speedBelow n a1 h q3 e4) ?_
      refine aw_iload_2 C dX6_speed_25 ?_
      obtain ⟨q5, e6, hF⟩ := bw_bind hF
      refine bw_S3l C dX6_speed_26 kyX6_lowest lX6_132 ksX6_lowest rfl rfl (ctX6_lowest n q1 q3 a2 h q5 e6) ?_
      refine aw_goto (tgt := 35) C dX6_speed_29 (by decide) ?_
      obtain rfl := Option.some.inj hF
      exact aw_lret C E dX6_speed_35 rfl rfl (bw_ret rfl)
def FX6_wayOf (n : Nat) (a1 : Int32) (a2 : Int32) (h : aw_H) : Option (Int64) :=
  ((FX6_at a1 (3 : Int32) h).bind (fun q1 => ((FX6_speedAbove n a1 h).bind (fun q3 => ((FX6_speedBelow n a1 h).bind (fun q5 => (if q5 = 0 then none else ((FX6_at a1 (1 : Int32) h).bind (fun q8 => ((FX6_at a1 (0 : Int32) h).bind (fun q10 => (if q10 = (1 : Int32) then some ((2 : Int64) * ((q1).toInt64 + (((a2).toInt64 * q3) / q5))) else (if q10 = (2 : Int32) then some ((q1).toInt64 + (((a2).toInt64 * q3) / q5)) else (if q10 = (3 : Int32) then some (((q1).toInt64 + (((a2).toInt64 * q3) / q5)) + ((q8).toInt64 * ((a2 / (100 : Int32))).toInt64)) else (if q10 = (4 : Int32) then some ((2 : Int64) * ((q1).toInt64 + (((a2).toInt64 * q3) / q5))) else (if q10 = (5 : Int32) then some ((((q1).toInt64 + (((a2).toInt64 * q3) / q5)) + ((q8).toInt64 * ((a2 / (100 : Int32))).toInt64)) - ((((q1).toInt64 + (((a2).toInt64 * q3) / q5)) + ((q8).toInt64 * ((a2 / (100 : Int32))).toInt64)) - ((((q1).toInt64 + (((a2).toInt64 * q3) / q5)) + ((q8).toInt64 * ((a2 / (100 : Int32))).toInt64)) / (64 : Int64)) * (64 : Int64))) else some ((q1).toInt64 + (((a2).toInt64 * q3) / q5))))))))))))))))))
set_option maxRecDepth 100000 in
set_option maxHeartbeats 4000000 in
theorem ctX6_wayOf (n : Nat) (a1 : Int32) (a2 : Int32) (h : aw_H) (y : Int64) (hF : FX6_wayOf n a1 a2 h = some y) : Ct 3 0 0 yX6_wayOf cX6_wayOf 7 (some .long) [.ref 71, .int a1, .int a2] wL wR h (aw_D (some (.long y)) h) := by
  refine Ct.of (ls0 := [.ref 71, .int a1, .int a2, .retAddr 0, .retAddr 0, .retAddr 0, .retAddr 0]) (by decide +kernel) rfl rfl (fun X C E hnm => ?_)
  have C : aw_C X RX6 cX6_wayOf 7 3 0 0 := C
  unfold FX6_wayOf at hF
  refine aw_aload_0 C dX6_wayOf_0 ?_
  refine aw_iload_1 C dX6_wayOf_1 ?_
  refine aw_iconst C dX6_wayOf_2 li_3 ?_
  obtain ⟨q1, e2, hF⟩ := bw_bind hF
  refine bw_V2i C dX6_wayOf_3 kyX6_at lX6_77 kiX6_at kvX6_at (aw_rv C rfl rfl) rfl rfl (ctX6_at a1 (3 : Int32) h q1 e2) ?_
  refine aw_i2l C dX6_wayOf_6 ?_
  refine aw_iload_2 C dX6_wayOf_7 ?_
  refine aw_i2l C dX6_wayOf_8 ?_
  refine aw_aload_0 C dX6_wayOf_9 ?_
  refine aw_iload_1 C dX6_wayOf_10 ?_
  obtain ⟨q3, e4, hF⟩ := bw_bind hF
  refine bw_V1l C dX6_wayOf_11 kyX6_speedAbove lX6_125 kiX6_speedAbove kvX6_speedAbove (aw_rv C rfl rfl) rfl rfl (ctX6_speedAbove n a1 h q3 e4) ?_
  refine aw_lmul C dX6_wayOf_14 ?_
  refine aw_aload_0 C dX6_wayOf_15 ?_
  refine aw_iload_1 C dX6_wayOf_16 ?_
  obtain ⟨q5, e6, hF⟩ := bw_bind hF
  refine bw_V1l C dX6_wayOf_17 kyX6_speedBelow lX6_129 kiX6_speedBelow kvX6_speedBelow (aw_rv C rfl rfl) rfl rfl (ctX6_speedBelow n a1 h q5 e6) ?_
  obtain ⟨s7, hF⟩ := bw_nz hF
  refine aw_ldiv C dX6_wayOf_20 s7 ?_
  refine aw_ladd C dX6_wayOf_21 ?_
  refine aw_lstore_3 C dX6_wayOf_22 rfl rfl ?_
  refine aw_lload_3 C dX6_wayOf_23 ?_
  refine aw_aload_0 C dX6_wayOf_24 ?_
  refine aw_iload_1 C dX6_wayOf_25 ?_
  refine aw_iconst C dX6_wayOf_26 li_1 ?_
  obtain ⟨q8, e9, hF⟩ := bw_bind hF
  refine bw_V2i C dX6_wayOf_27 kyX6_at lX6_77 kiX6_at kvX6_at (aw_rv C rfl rfl) rfl rfl (ctX6_at a1 (1 : Int32) h q8 e9) ?_
  refine aw_i2l C dX6_wayOf_30 ?_
  refine aw_iload_2 C dX6_wayOf_31 ?_
  refine aw_bipush C dX6_wayOf_32 lb_100 ?_
  refine aw_idiv C dX6_wayOf_34 (by decide) ?_
  refine aw_i2l C dX6_wayOf_35 ?_
  refine aw_lmul C dX6_wayOf_36 ?_
  refine aw_ladd C dX6_wayOf_37 ?_
  refine aw_lstore_5 C dX6_wayOf_38 rfl rfl ?_
  refine aw_aload_0 C dX6_wayOf_40 ?_
  refine aw_iload_1 C dX6_wayOf_41 ?_
  refine aw_iconst C dX6_wayOf_42 li_0 ?_
  obtain ⟨q10, e11, hF⟩ := bw_bind hF
  refine bw_V2i C dX6_wayOf_43 kyX6_at lX6_77 kiX6_at kvX6_at (aw_rv C rfl rfl) rfl rfl (ctX6_at a1 (0 : Int32) h q10 e11) ?_
  rcases Decidable.em (q10 = (1 : Int32)) with c12 | c12
  · rw [if_pos c12] at hF
    refine aw_tabIn (off := 34) (tgt := 80) C dX6_wayOf_46 (by rw [c12]; decide) (by rw [c12]; decide) (by rw [c12]; rfl) (by decide) ?_
    refine aw_ldc2 C dX6_wayOf_80 nX6_81 ?_
    refine aw_lload_3 C dX6_wayOf_83 ?_
    refine aw_lmul C dX6_wayOf_84 ?_
    obtain rfl := Option.some.inj hF
    exact aw_lret C E dX6_wayOf_85 rfl rfl (bw_ret rfl)
  rw [if_neg c12] at hF
  rcases Decidable.em (q10 = (2 : Int32)) with c13 | c13
  · rw [if_pos c13] at hF
    refine aw_tabIn (off := 53) (tgt := 99) C dX6_wayOf_46 (by rw [c13]; decide) (by rw [c13]; decide) (by rw [c13]; rfl) (by decide) ?_
    refine aw_lload_3 C dX6_wayOf_99 ?_
    obtain rfl := Option.some.inj hF
    exact aw_lret C E dX6_wayOf_100 rfl rfl (bw_ret rfl)
  rw [if_neg c13] at hF
  rcases Decidable.em (q10 = (3 : Int32)) with c14 | c14
  · rw [if_pos c14] at hF
    refine aw_tabIn (off := 40) (tgt := 86) C dX6_wayOf_46 (by rw [c14]; decide) (by rw [c14]; decide) (by rw [c14]; rfl) (by decide) ?_
    refine aw_lload_5 C dX6_wayOf_86 ?_
    obtain rfl := Option.some.inj hF
    exact aw_lret C E dX6_wayOf_88 rfl rfl (bw_ret rfl)
  rw [if_neg c14] at hF
  rcases Decidable.em (q10 = (4 : Int32)) with c15 | c15
  · rw [if_pos c15] at hF
    refine aw_tabIn (off := 34) (tgt := 80) C dX6_wayOf_46 (by rw [c15]; decide) (by rw [c15]; decide) (by rw [c15]; rfl) (by decide) ?_
    refine aw_ldc2 C dX6_wayOf_80 nX6_81 ?_
    refine aw_lload_3 C dX6_wayOf_83 ?_
    refine aw_lmul C dX6_wayOf_84 ?_
    obtain rfl := Option.some.inj hF
    exact aw_lret C E dX6_wayOf_85 rfl rfl (bw_ret rfl)
  rw [if_neg c15] at hF
  rcases Decidable.em (q10 = (5 : Int32)) with c16 | c16
  · rw [if_pos c16] at hF
    refine aw_tabIn (off := 43) (tgt := 89) C dX6_wayOf_46 (by rw [c16]; decide) (by rw [c16]; decide) (by rw [c16]; rfl) (by decide) ?_
    refine aw_lload_5 C dX6_wayOf_89 ?_
    refine aw_lload_5 C dX6_wayOf_91 ?_
    refine aw_ldc2 C dX6_wayOf_93 nX6_138 ?_
    refine aw_lrem C dX6_wayOf_96 (by decide) ?_
    refine aw_lsub C dX6_wayOf_97 ?_
    obtain rfl := Option.some.inj hF
    exact aw_lret C E dX6_wayOf_98 rfl rfl (bw_ret rfl)
  rw [if_neg c16] at hF
  refine aw_tabOut (tgt := 99) C dX6_wayOf_46 (by
      have zc12 := bw_lit (z := 1) (by decide) c12
      have zc13 := bw_lit (z := 2) (by decide) c13
      have zc14 := bw_lit (z := 3) (by decide) c14
      have zc15 := bw_lit (z := 4) (by decide) c15
      have zc16 := bw_lit (z := 5) (by decide) c16
      omega) (by decide) ?_
  refine aw_lload_3 C dX6_wayOf_99 ?_
  obtain rfl := Option.some.inj hF
  exact aw_lret C E dX6_wayOf_100 rfl rfl (bw_ret rfl)
def FX6_placeOf (n : Nat) (a1 : Int32) (a2 : Int32) (h : aw_H) : Option (Int32) :=
  ((FX6_wayOf n a1 a2 h).bind (fun q1 => some (((q1 - (q1 / (1024 : Int64)) * (1024 : Int64))).toInt32)))
set_option maxRecDepth 100000 in
set_option maxHeartbeats 4000000 in
theorem ctX6_placeOf (n : Nat) (a1 : Int32) (a2 : Int32) (h : aw_H) (y : Int32) (hF : FX6_placeOf n a1 a2 h = some y) : Ct 4 0 0 yX6_placeOf cX6_placeOf 3 (some .int) [.ref 71, .int a1, .int a2] wL wR h (aw_D (some (.int y)) h) := by
  refine Ct.of (ls0 := [.ref 71, .int a1, .int a2]) (by decide +kernel) rfl rfl (fun X C E hnm => ?_)
  have C : aw_C X RX6 cX6_placeOf 3 4 0 0 := C
  unfold FX6_placeOf at hF
  refine aw_aload_0 C dX6_placeOf_0 ?_
  refine aw_iload_1 C dX6_placeOf_1 ?_
  refine aw_iload_2 C dX6_placeOf_2 ?_
  obtain ⟨q1, e2, hF⟩ := bw_bind hF
  refine bw_V2l C dX6_placeOf_3 kyX6_wayOf lX6_140 kiX6_wayOf kvX6_wayOf (aw_rv C rfl rfl) rfl rfl (ctX6_wayOf n a1 a2 h q1 e2) ?_
  refine aw_ldc2 C dX6_placeOf_6 nX6_144 ?_
  refine aw_lrem C dX6_placeOf_9 (by decide) ?_
  refine aw_l2i C dX6_placeOf_10 ?_
  obtain rfl := Option.some.inj hF
  exact aw_iret C E dX6_placeOf_11 rfl rfl (bw_ret rfl)
def FX6_shapeOf (a1 : Int32) (a2 : Int32) (h : aw_H) : Option (Int32) :=
  (if (512 : Int32) ≤ a2 then ((FX6_at a1 (1 : Int32) h).bind (fun q1 => ((FX6_at a1 (0 : Int32) h).bind (fun q3 => (if q3 = (2 : Int32) then (if (-((a2 - (512 : Int32)) * ((1024 : Int32) - a2))) ≤ ((q1 + (1 : Int32)) * (6553 : Int32)) then (if (-((q1 + (1 : Int32)) * (6553 : Int32))) ≤ (-((a2 - (512 : Int32)) * ((1024 : Int32) - a2))) then some (-((a2 - (512 : Int32)) * ((1024 : Int32) - a2))) else some (-((q1 + (1 : Int32)) * (6553 : Int32)))) else some ((q1 + (1 : Int32)) * (6553 : Int32))) else (if q3 = (4 : Int32) then some ((-((a2 - (512 : Int32)) * ((1024 : Int32) - a2))) / (2 : Int32)) else some (-((a2 - (512 : Int32)) * ((1024 : Int32) - a2))))))))) else ((FX6_at a1 (1 : Int32) h).bind (fun q7 => ((FX6_at a1 (0 : Int32) h).bind (fun q9 => (if q9 = (2 : Int32) then (if (a2 * ((512 : Int32) - a2)) ≤ ((q7 + (1 : Int32)) * (6553 : Int32)) then (if (-((q7 + (1 : Int32)) * (6553 : Int32))) ≤ (a2 * ((512 : Int32) - a2)) then some (a2 * ((512 : Int32) - a2)) else some (-((q7 + (1 : Int32)) * (6553 : Int32)))) else some ((q7 + (1 : Int32)) * (6553 : Int32))) else (if q9 = (4 : Int32) then some ((a2 * ((512 : Int32) - a2)) / (2 : Int32)) else some (a2 * ((512 : Int32) - a2)))))))))
set_option maxRecDepth 100000 in
set_option maxHeartbeats 4000000 in
theorem ctX6_shapeOf (a1 : Int32) (a2 : Int32) (h : aw_H) (y : Int32) (hF : FX6_shapeOf a1 a2 h = some y) : Ct 1 0 0 yX6_shapeOf cX6_shapeOf 5 (some .int) [.ref 71, .int a1, .int a2] wL wR h (aw_D (some (.int y)) h) := by
  refine Ct.of (ls0 := [.ref 71, .int a1, .int a2, .retAddr 0, .retAddr 0]) (by decide +kernel) rfl rfl (fun X C E hnm => ?_)
  have C : aw_C X RX6 cX6_shapeOf 5 1 0 0 := C
  unfold FX6_shapeOf at hF
  refine aw_iload_2 C dX6_shapeOf_0 ?_
  refine aw_sipush C dX6_shapeOf_1 ls_512 ?_
  refine bw_icmp_ge (tgt := 17) C dX6_shapeOf_4 (by decide) hF (fun hF => ?_) (fun hF => ?_)
  · refine aw_iload_2 C dX6_shapeOf_17 ?_
    refine aw_sipush C dX6_shapeOf_18 ls_512 ?_
    refine aw_isub C dX6_shapeOf_21 ?_
    refine aw_sipush C dX6_shapeOf_22 ls_1024 ?_
    refine aw_iload_2 C dX6_shapeOf_25 ?_
    refine aw_isub C dX6_shapeOf_26 ?_
    refine aw_imul C dX6_shapeOf_27 ?_
    refine aw_ineg C dX6_shapeOf_28 ?_
    refine aw_istore_3 C dX6_shapeOf_29 rfl rfl ?_
    refine aw_aload_0 C dX6_shapeOf_30 ?_
    refine aw_iload_1 C dX6_shapeOf_31 ?_
    refine aw_iconst C dX6_shapeOf_32 li_1 ?_
    obtain ⟨q1, e2, hF⟩ := bw_bind hF
    refine bw_V2i C dX6_shapeOf_33 kyX6_at lX6_77 kiX6_at kvX6_at (aw_rv C rfl rfl) rfl rfl (ctX6_at a1 (1 : Int32) h q1 e2) ?_
    refine aw_iconst C dX6_shapeOf_36 li_1 ?_
    refine aw_iadd C dX6_shapeOf_37 ?_
    refine aw_sipush C dX6_shapeOf_38 ls_6553 ?_
    refine aw_imul C dX6_shapeOf_41 ?_
    refine aw_istore_4 C dX6_shapeOf_42 rfl rfl ?_
    refine aw_aload_0 C dX6_shapeOf_44 ?_
    refine aw_iload_1 C dX6_shapeOf_45 ?_
    refine aw_iconst C dX6_shapeOf_46 li_0 ?_
    obtain ⟨q3, e4, hF⟩ := bw_bind hF
    refine bw_V2i C dX6_shapeOf_47 kyX6_at lX6_77 kiX6_at kvX6_at (aw_rv C rfl rfl) rfl rfl (ctX6_at a1 (0 : Int32) h q3 e4) ?_
    rcases Decidable.em (q3 = (2 : Int32)) with c5 | c5
    · rw [if_pos c5] at hF
      refine aw_lookup (off := 26) (tgt := 76) C dX6_shapeOf_50 (by decide) (by rw [c5]; decide) (by decide) ?_
      refine aw_iload_3 C dX6_shapeOf_76 ?_
      refine aw_iload_4 C dX6_shapeOf_77 ?_
      refine bw_icmp_le (tgt := 87) C dX6_shapeOf_79 (by decide) hF (fun hF => ?_) (fun hF => ?_)
      · refine aw_iload_3 C dX6_shapeOf_87 ?_
        refine aw_iload_4 C dX6_shapeOf_88 ?_
        refine aw_ineg C dX6_shapeOf_90 ?_
        refine bw_icmp_ge (tgt := 100) C dX6_shapeOf_91 (by decide) hF (fun hF => ?_) (fun hF => ?_)
        · refine aw_iload_3 C dX6_shapeOf_100 ?_
          obtain rfl := Option.some.inj hF
          exact aw_iret C E dX6_shapeOf_101 rfl rfl (bw_ret rfl)
        · refine aw_iload_4 C dX6_shapeOf_94 ?_
          refine aw_ineg C dX6_shapeOf_96 ?_
          refine aw_goto (tgt := 101) C dX6_shapeOf_97 (by decide) ?_
          obtain rfl := Option.some.inj hF
          exact aw_iret C E dX6_shapeOf_101 rfl rfl (bw_ret rfl)
      · refine aw_iload_4 C dX6_shapeOf_82 ?_
        refine aw_goto (tgt := 101) C dX6_shapeOf_84 (by decide) ?_
        obtain rfl := Option.some.inj hF
        exact aw_iret C E dX6_shapeOf_101 rfl rfl (bw_ret rfl)
    rw [if_neg c5] at hF
    rcases Decidable.em (q3 = (4 : Int32)) with c6 | c6
    · rw [if_pos c6] at hF
      refine aw_lookup (off := 52) (tgt := 102) C dX6_shapeOf_50 (by decide) (by rw [c6]; decide) (by decide) ?_
      refine aw_iload_3 C dX6_shapeOf_102 ?_
      refine aw_iconst C dX6_shapeOf_103 li_2 ?_
      refine aw_idiv C dX6_shapeOf_104 (by decide) ?_
      obtain rfl := Option.some.inj hF
      exact aw_iret C E dX6_shapeOf_105 rfl rfl (bw_ret rfl)
    rw [if_neg c6] at hF
    refine aw_lookup (off := 56) (tgt := 106) C dX6_shapeOf_50 (by decide) ((lv_osw c5 (by decide)).trans ((lv_osw c6 (by decide)).trans rfl)) (by decide) ?_
    refine aw_iload_3 C dX6_shapeOf_106 ?_
    obtain rfl := Option.some.inj hF
    exact aw_iret C E dX6_shapeOf_107 rfl rfl (bw_ret rfl)
  · refine aw_iload_2 C dX6_shapeOf_7 ?_
    refine aw_sipush C dX6_shapeOf_8 ls_512 ?_
    refine aw_iload_2 C dX6_shapeOf_11 ?_
    refine aw_isub C dX6_shapeOf_12 ?_
    refine aw_imul C dX6_shapeOf_13 ?_
    refine aw_goto (tgt := 29) C dX6_shapeOf_14 (by decide) ?_
    refine aw_istore_3 C dX6_shapeOf_29 rfl rfl ?_
    refine aw_aload_0 C dX6_shapeOf_30 ?_
    refine aw_iload_1 C dX6_shapeOf_31 ?_
    refine aw_iconst C dX6_shapeOf_32 li_1 ?_
    obtain ⟨q7, e8, hF⟩ := bw_bind hF
    refine bw_V2i C dX6_shapeOf_33 kyX6_at lX6_77 kiX6_at kvX6_at (aw_rv C rfl rfl) rfl rfl (ctX6_at a1 (1 : Int32) h q7 e8) ?_
    refine aw_iconst C dX6_shapeOf_36 li_1 ?_
    refine aw_iadd C dX6_shapeOf_37 ?_
    refine aw_sipush C dX6_shapeOf_38 ls_6553 ?_
    refine aw_imul C dX6_shapeOf_41 ?_
    refine aw_istore_4 C dX6_shapeOf_42 rfl rfl ?_
    refine aw_aload_0 C dX6_shapeOf_44 ?_
    refine aw_iload_1 C dX6_shapeOf_45 ?_
    refine aw_iconst C dX6_shapeOf_46 li_0 ?_
    obtain ⟨q9, e10, hF⟩ := bw_bind hF
    refine bw_V2i C dX6_shapeOf_47 kyX6_at lX6_77 kiX6_at kvX6_at (aw_rv C rfl rfl) rfl rfl (ctX6_at a1 (0 : Int32) h q9 e10) ?_
    rcases Decidable.em (q9 = (2 : Int32)) with c11 | c11
    · rw [if_pos c11] at hF
      refine aw_lookup (off := 26) (tgt := 76) C dX6_shapeOf_50 (by decide) (by rw [c11]; decide) (by decide) ?_
      refine aw_iload_3 C dX6_shapeOf_76 ?_
      refine aw_iload_4 C dX6_shapeOf_77 ?_
      refine bw_icmp_le (tgt := 87) C dX6_shapeOf_79 (by decide) hF (fun hF => ?_) (fun hF => ?_)
      · refine aw_iload_3 C dX6_shapeOf_87 ?_
        refine aw_iload_4 C dX6_shapeOf_88 ?_
        refine aw_ineg C dX6_shapeOf_90 ?_
        refine bw_icmp_ge (tgt := 100) C dX6_shapeOf_91 (by decide) hF (fun hF => ?_) (fun hF => ?_)
        · refine aw_iload_3 C dX6_shapeOf_100 ?_
          obtain rfl := Option.some.inj hF
          exact aw_iret C E dX6_shapeOf_101 rfl rfl (bw_ret rfl)
        · refine aw_iload_4 C dX6_shapeOf_94 ?_
          refine aw_ineg C dX6_shapeOf_96 ?_
          refine aw_goto (tgt := 101) C dX6_shapeOf_97 (by decide) ?_
          obtain rfl := Option.some.inj hF
          exact aw_iret C E dX6_shapeOf_101 rfl rfl (bw_ret rfl)
      · refine aw_iload_4 C dX6_shapeOf_82 ?_
        refine aw_goto (tgt := 101) C dX6_shapeOf_84 (by decide) ?_
        obtain rfl := Option.some.inj hF
        exact aw_iret C E dX6_shapeOf_101 rfl rfl (bw_ret rfl)
    rw [if_neg c11] at hF
    rcases Decidable.em (q9 = (4 : Int32)) with c12 | c12
    · rw [if_pos c12] at hF
      refine aw_lookup (off := 52) (tgt := 102) C dX6_shapeOf_50 (by decide) (by rw [c12]; decide) (by decide) ?_
      refine aw_iload_3 C dX6_shapeOf_102 ?_
      refine aw_iconst C dX6_shapeOf_103 li_2 ?_
      refine aw_idiv C dX6_shapeOf_104 (by decide) ?_
      obtain rfl := Option.some.inj hF
      exact aw_iret C E dX6_shapeOf_105 rfl rfl (bw_ret rfl)
    rw [if_neg c12] at hF
    refine aw_lookup (off := 56) (tgt := 106) C dX6_shapeOf_50 (by decide) ((lv_osw c11 (by decide)).trans ((lv_osw c12 (by decide)).trans rfl)) (by decide) ?_
    refine aw_iload_3 C dX6_shapeOf_106 ?_
    obtain rfl := Option.some.inj hF
    exact aw_iret C E dX6_shapeOf_107 rfl rfl (bw_ret rfl)
def FX6_heightBy (n : Nat) (a1 : Int32) (a2 : Int32) (h : aw_H) : Option (Int64) :=
  ((FX6_at a1 (2 : Int32) h).bind (fun q1 => ((FX6_placeOf n a1 a2 h).bind (fun q3 => ((FX6_shapeOf a1 q3 h).bind (fun q5 => some ((q1).toInt64 * (q5).toInt64)))))))
set_option maxRecDepth 100000 in
set_option maxHeartbeats 4000000 in
theorem ctX6_heightBy (n : Nat) (a1 : Int32) (a2 : Int32) (h : aw_H) (y : Int64) (hF : FX6_heightBy n a1 a2 h = some y) : Ct 5 0 0 yX6_heightBy cX6_heightBy 3 (some .long) [.ref 71, .int a1, .int a2] wL wR h (aw_D (some (.long y)) h) := by
  refine Ct.of (ls0 := [.ref 71, .int a1, .int a2]) (by decide +kernel) rfl rfl (fun X C E hnm => ?_)
  have C : aw_C X RX6 cX6_heightBy 3 5 0 0 := C
  unfold FX6_heightBy at hF
  refine aw_aload_0 C dX6_heightBy_0 ?_
  refine aw_iload_1 C dX6_heightBy_1 ?_
  refine aw_iconst C dX6_heightBy_2 li_2 ?_
  obtain ⟨q1, e2, hF⟩ := bw_bind hF
  refine bw_V2i C dX6_heightBy_3 kyX6_at lX6_77 kiX6_at kvX6_at (aw_rv C rfl rfl) rfl rfl (ctX6_at a1 (2 : Int32) h q1 e2) ?_
  refine aw_i2l C dX6_heightBy_6 ?_
  refine aw_aload_0 C dX6_heightBy_7 ?_
  refine aw_iload_1 C dX6_heightBy_8 ?_
  refine aw_aload_0 C dX6_heightBy_9 ?_
  refine aw_iload_1 C dX6_heightBy_10 ?_
  refine aw_iload_2 C dX6_heightBy_11 ?_
  obtain ⟨q3, e4, hF⟩ := bw_bind hF
  refine bw_V2i C dX6_heightBy_12 kyX6_placeOf lX6_146 kiX6_placeOf kvX6_placeOf (aw_rv C rfl rfl) rfl rfl (ctX6_placeOf n a1 a2 h q3 e4) ?_
  obtain ⟨q5, e6, hF⟩ := bw_bind hF
  refine bw_V2i C dX6_heightBy_15 kyX6_shapeOf lX6_149 kiX6_shapeOf kvX6_shapeOf (aw_rv C rfl rfl) rfl rfl (ctX6_shapeOf a1 q3 h q5 e6) ?_
  refine aw_i2l C dX6_heightBy_18 ?_
  refine aw_lmul C dX6_heightBy_19 ?_
  obtain rfl := Option.some.inj hF
  exact aw_lret C E dX6_heightBy_20 rfl rfl (bw_ret rfl)
def BX6_sumAt_5 (n : Nat) (a1 : Int32) (h : aw_H) (u5 : (Int64 × Int32)) : Option ((Int64 × Int32) ⊕ Int64) :=
  (if (h.1 72 66) ≤ u5.2 then some (Sum.inr u5.1) else ((FX6_heightBy n u5.2 a1 h).bind (fun q1 => some (Sum.inl ((u5.1 + q1), (u5.2 + (1 : Int32)))))))
def FX6_sumAt (n : Nat) (a1 : Int32) (h : aw_H) : Option (Int64) :=
  aw_loop (BX6_sumAt_5 n a1 h) n ((0 : Int64), (0 : Int32))
set_option maxRecDepth 100000 in
set_option maxHeartbeats 4000000 in
theorem ctX6_sumAt (n : Nat) (a1 : Int32) (h : aw_H) (y : Int64) (hF : FX6_sumAt n a1 h = some y) : Ct 6 0 0 yX6_sumAt cX6_sumAt 5 (some .long) [.ref 71, .int a1] wL wR h (aw_D (some (.long y)) h) := by
  refine Ct.of (ls0 := [.ref 71, .int a1, .retAddr 0, .retAddr 0, .retAddr 0]) (by decide +kernel) rfl rfl (fun X C E hnm => ?_)
  have C : aw_C X RX6 cX6_sumAt 5 6 0 0 := C
  unfold FX6_sumAt at hF
  refine aw_lconst C dX6_sumAt_0 ll_0 ?_
  refine aw_lstore_2 C dX6_sumAt_1 rfl rfl ?_
  refine aw_iconst C dX6_sumAt_2 li_0 ?_
  refine aw_istore_4 C dX6_sumAt_3 rfl rfl ?_
  refine aw_loop_rule (fun u5 : (Int64 × Int32) => AW X 5 5 [.ref 71, .int a1, .long u5.1, .retAddr 0, .int u5.2] [] wL wR h 0 0) (fun q => q = y) (fun u5 y5 hF hK => ?_) n ((0 : Int64), (0 : Int32)) _ hF rfl
  unfold BX6_sumAt_5 at hF
  refine aw_iload_4 C dX6_sumAt_5 ?_
  refine aw_aload_0 C dX6_sumAt_7 ?_
  refine aw_getR C dX6_sumAt_8 fX6_11 gX6_0 rfl rfl ?_
  refine aw_bipush C dX6_sumAt_11 lb_66 ?_
  refine aw_iald C dX6_sumAt_13 rfl (aw_ixk (k := 66) (n := 69) rfl rfl) ?_
  refine bw_icmp_ge (tgt := 33) C dX6_sumAt_14 (by decide) hF (fun hF => ?_) (fun hF => ?_)
  · refine aw_lload_2 C dX6_sumAt_33 ?_
    obtain rfl := Option.some.inj hF
    have hK : _ = y := hK
    subst hK
    exact aw_lret C E dX6_sumAt_34 rfl rfl (bw_ret rfl)
  · refine aw_lload_2 C dX6_sumAt_17 ?_
    refine aw_aload_0 C dX6_sumAt_18 ?_
    refine aw_iload_4 C dX6_sumAt_19 ?_
    refine aw_iload_1 C dX6_sumAt_21 ?_
    obtain ⟨q1, e2, hF⟩ := bw_bind hF
    refine bw_V2l C dX6_sumAt_22 kyX6_heightBy lX6_152 kiX6_heightBy kvX6_heightBy (aw_rv C rfl rfl) rfl rfl (ctX6_heightBy n u5.2 a1 h q1 e2) ?_
    refine aw_ladd C dX6_sumAt_25 ?_
    refine aw_lstore_2 C dX6_sumAt_26 rfl rfl ?_
    refine aw_iinc_4 C dX6_sumAt_27 li_1 rfl rfl ?_
    refine aw_goto (tgt := 5) C dX6_sumAt_30 (by decide) ?_
    cases hF
    exact hK
def FX6_isTick (a1 : Int32) : Int32 :=
  (FX6_isIn ((a1).toInt64) (0 : Int64) (99999 : Int64))
set_option maxRecDepth 100000 in
set_option maxHeartbeats 4000000 in
theorem ctX6_isTick (a1 : Int32) (h : aw_H) (y : Int32) (hF : FX6_isTick a1 = y) : Ct 1 0 0 yX6_isTick cX6_isTick 1 (some .boolean) [.int a1] wL wR h (aw_D (some (.int y)) h) := by
  refine Ct.of (ls0 := [.int a1]) (by decide +kernel) rfl rfl (fun X C E hnm => ?_)
  have C : aw_C X RX6 cX6_isTick 1 1 0 0 := C
  unfold FX6_isTick at hF
  refine aw_iload_0 C dX6_isTick_0 ?_
  refine aw_i2l C dX6_isTick_1 ?_
  refine aw_lconst C dX6_isTick_2 ll_0 ?_
  refine aw_ldc2 C dX6_isTick_3 nX6_155 ?_
  refine bw_S3i C dX6_isTick_6 kyX6_isIn lX6_49 ksX6_isIn rfl rfl (ctX6_isIn ((a1).toInt64) (0 : Int64) (99999 : Int64) h _ rfl) ?_
  subst hF
  exact aw_zret C E (aw_nz (bX6_isIn ((a1).toInt64) (0 : Int64) (99999 : Int64))) dX6_isTick_9 rfl rfl (bw_ret rfl)
theorem bX6_isTick (a1 : Int32) : FX6_isTick a1 = 0 ∨ FX6_isTick a1 = 1 := by
  unfold FX6_isTick
  repeat' split
  all_goals first | exact Or.inl rfl | exact Or.inr rfl | exact bX6_isIn _ _ _
def FX6_turn (a1 : Int32) (h : aw_H) : Option (Int32 × aw_H) :=
  (if (FX6_isIn ((a1).toInt64) (1 : Int64) (99999 : Int64)) = 0 then some ((-2 : Int32), h) else (if ((h.1 72 68) + a1) ≤ (99999 : Int32) then some (((aw_sI h 72 68 ((h.1 72 68) + a1)).1 72 68), (aw_sI h 72 68 ((h.1 72 68) + a1))) else some ((-4 : Int32), h)))
set_option maxRecDepth 100000 in
set_option maxHeartbeats 4000000 in
theorem ctX6_turn (a1 : Int32) (h : aw_H) (y : Int32 × aw_H) (hF : FX6_turn a1 h = some y) : Ct 1 0 0 yX6_turn cX6_turn 2 (some .int) [.ref 71, .int a1] wL wR h (aw_D (some (.int y.1)) y.2) := by
  refine Ct.of (ls0 := [.ref 71, .int a1]) (by decide +kernel) rfl rfl (fun X C E hnm => ?_)
  have C : aw_C X RX6 cX6_turn 2 1 0 0 := C
  unfold FX6_turn at hF
  refine aw_iload_1 C dX6_turn_0 ?_
  refine aw_i2l C dX6_turn_1 ?_
  refine aw_lconst C dX6_turn_2 ll_1 ?_
  refine aw_ldc2 C dX6_turn_3 nX6_155 ?_
  refine bw_S3i C dX6_turn_6 kyX6_isIn lX6_49 ksX6_isIn rfl rfl (ctX6_isIn ((a1).toInt64) (1 : Int64) (99999 : Int64) h _ rfl) ?_
  refine bw_if_ne (tgt := 15) C dX6_turn_9 (by decide) hF (fun hF => ?_) (fun hF => ?_)
  · refine aw_aload_0 C dX6_turn_15 ?_
    refine aw_getR C dX6_turn_16 fX6_11 gX6_0 rfl rfl ?_
    refine aw_bipush C dX6_turn_19 lb_68 ?_
    refine aw_iald C dX6_turn_21 rfl (aw_ixk (k := 68) (n := 69) rfl rfl) ?_
    refine aw_iload_1 C dX6_turn_22 ?_
    refine aw_iadd C dX6_turn_23 ?_
    refine aw_ldc C dX6_turn_24 nX6_157 ?_
    refine bw_icmp_le (tgt := 32) C dX6_turn_26 (by decide) hF (fun hF => ?_) (fun hF => ?_)
    · refine aw_aload_0 C dX6_turn_32 ?_
      refine aw_getR C dX6_turn_33 fX6_11 gX6_0 rfl rfl ?_
      refine aw_bipush C dX6_turn_36 lb_68 ?_
      refine aw_dup2 C dX6_turn_38 rfl rfl ?_
      refine aw_iald C dX6_turn_39 rfl (aw_ixk (k := 68) (n := 69) rfl rfl) ?_
      refine aw_iload_1 C dX6_turn_40 ?_
      refine aw_iadd C dX6_turn_41 ?_
      refine aw_iast C dX6_turn_42 rfl (aw_ixk (k := 68) (n := 69) rfl rfl) ?_
      refine aw_aload_0 C dX6_turn_43 ?_
      refine aw_getR C dX6_turn_44 fX6_11 gX6_0 rfl rfl ?_
      refine aw_bipush C dX6_turn_47 lb_68 ?_
      refine aw_iald C dX6_turn_49 rfl (aw_ixk (k := 68) (n := 69) rfl rfl) ?_
      obtain rfl := Option.some.inj hF
      exact aw_iret C E dX6_turn_50 rfl rfl (bw_ret rfl)
    · refine aw_bipush C dX6_turn_29 lb_m4 ?_
      obtain rfl := Option.some.inj hF
      exact aw_iret C E dX6_turn_31 rfl rfl (bw_ret rfl)
  · refine aw_bipush C dX6_turn_12 lb_m2 ?_
    obtain rfl := Option.some.inj hF
    exact aw_iret C E dX6_turn_14 rfl rfl (bw_ret rfl)
def FX6_height (n : Nat) (h : aw_H) : Option (Int64) :=
  ((FX6_sumAt n (h.1 72 68) h).bind (fun q1 => some q1))
set_option maxRecDepth 100000 in
set_option maxHeartbeats 4000000 in
theorem ctX6_height (n : Nat) (h : aw_H) (y : Int64) (hF : FX6_height n h = some y) : Ct 7 0 0 yX6_height cX6_height 1 (some .long) [.ref 71] wL wR h (aw_D (some (.long y)) h) := by
  refine Ct.of (ls0 := [.ref 71]) (by decide +kernel) rfl rfl (fun X C E hnm => ?_)
  have C : aw_C X RX6 cX6_height 1 7 0 0 := C
  unfold FX6_height at hF
  refine aw_aload_0 C dX6_height_0 ?_
  refine aw_aload_0 C dX6_height_1 ?_
  refine aw_getR C dX6_height_2 fX6_11 gX6_0 rfl rfl ?_
  refine aw_bipush C dX6_height_5 lb_68 ?_
  refine aw_iald C dX6_height_7 rfl (aw_ixk (k := 68) (n := 69) rfl rfl) ?_
  obtain ⟨q1, e2, hF⟩ := bw_bind hF
  refine bw_V1l C dX6_height_8 kyX6_sumAt lX6_158 kiX6_sumAt kvX6_sumAt (aw_rv C rfl rfl) rfl rfl (ctX6_sumAt n (h.1 72 68) h q1 e2) ?_
  obtain rfl := Option.some.inj hF
  exact aw_lret C E dX6_height_11 rfl rfl (bw_ret rfl)
def FX6_heightAt (n : Nat) (a1 : Int32) (h : aw_H) : Option (Int64) :=
  (if (FX6_isTick a1) = 0 then some (-9223372036854775808 : Int64) else ((FX6_sumAt n a1 h).bind (fun q1 => some q1)))
set_option maxRecDepth 100000 in
set_option maxHeartbeats 4000000 in
theorem ctX6_heightAt (n : Nat) (a1 : Int32) (h : aw_H) (y : Int64) (hF : FX6_heightAt n a1 h = some y) : Ct 7 0 0 yX6_heightAt cX6_heightAt 2 (some .long) [.ref 71, .int a1] wL wR h (aw_D (some (.long y)) h) := by
  refine Ct.of (ls0 := [.ref 71, .int a1]) (by decide +kernel) rfl rfl (fun X C E hnm => ?_)
  have C : aw_C X RX6 cX6_heightAt 2 7 0 0 := C
  unfold FX6_heightAt at hF
  refine aw_iload_1 C dX6_heightAt_0 ?_
  refine bw_S1i C dX6_heightAt_1 kyX6_isTick lX6_161 ksX6_isTick rfl rfl (ctX6_isTick a1 h _ rfl) ?_
  refine bw_if_eq (tgt := 15) C dX6_heightAt_4 (by decide) hF (fun hF => ?_) (fun hF => ?_)
  · refine aw_ldc2 C dX6_heightAt_15 nX6_136 ?_
    obtain rfl := Option.some.inj hF
    exact aw_lret C E dX6_heightAt_18 rfl rfl (bw_ret rfl)
  · refine aw_aload_0 C dX6_heightAt_7 ?_
    refine aw_iload_1 C dX6_heightAt_8 ?_
    obtain ⟨q1, e2, hF⟩ := bw_bind hF
    refine bw_V1l C dX6_heightAt_9 kyX6_sumAt lX6_158 kiX6_sumAt kvX6_sumAt (aw_rv C rfl rfl) rfl rfl (ctX6_sumAt n a1 h q1 e2) ?_
    refine aw_goto (tgt := 18) C dX6_heightAt_12 (by decide) ?_
    obtain rfl := Option.some.inj hF
    exact aw_lret C E dX6_heightAt_18 rfl rfl (bw_ret rfl)
def FX6_heightOf (n : Nat) (a1 : Int32) (a2 : Int32) (h : aw_H) : Option (Int64) :=
  (if (FX6_isPart a1 h) = 0 then some (-9223372036854775808 : Int64) else (if (FX6_isTick a2) = 0 then some (-9223372036854775808 : Int64) else ((FX6_heightBy n a1 a2 h).bind (fun q1 => some q1))))
set_option maxRecDepth 100000 in
set_option maxHeartbeats 4000000 in
theorem ctX6_heightOf (n : Nat) (a1 : Int32) (a2 : Int32) (h : aw_H) (y : Int64) (hF : FX6_heightOf n a1 a2 h = some y) : Ct 6 0 0 yX6_heightOf cX6_heightOf 3 (some .long) [.ref 71, .int a1, .int a2] wL wR h (aw_D (some (.long y)) h) := by
  refine Ct.of (ls0 := [.ref 71, .int a1, .int a2]) (by decide +kernel) rfl rfl (fun X C E hnm => ?_)
  have C : aw_C X RX6 cX6_heightOf 3 6 0 0 := C
  unfold FX6_heightOf at hF
  refine aw_aload_0 C dX6_heightOf_0 ?_
  refine aw_iload_1 C dX6_heightOf_1 ?_
  refine bw_V1i C dX6_heightOf_2 kyX6_isPart lX6_69 kiX6_isPart kvX6_isPart (aw_rv C rfl rfl) rfl rfl (ctX6_isPart a1 h _ rfl) ?_
  refine bw_if_eq (tgt := 24) C dX6_heightOf_5 (by decide) hF (fun hF => ?_) (fun hF => ?_)
  · refine aw_ldc2 C dX6_heightOf_24 nX6_136 ?_
    obtain rfl := Option.some.inj hF
    exact aw_lret C E dX6_heightOf_27 rfl rfl (bw_ret rfl)
  · refine aw_iload_2 C dX6_heightOf_8 ?_
    refine bw_S1i C dX6_heightOf_9 kyX6_isTick lX6_161 ksX6_isTick rfl rfl (ctX6_isTick a2 h _ rfl) ?_
    refine bw_if_eq (tgt := 24) C dX6_heightOf_12 (by decide) hF (fun hF => ?_) (fun hF => ?_)
    · refine aw_ldc2 C dX6_heightOf_24 nX6_136 ?_
      obtain rfl := Option.some.inj hF
      exact aw_lret C E dX6_heightOf_27 rfl rfl (bw_ret rfl)
    · refine aw_aload_0 C dX6_heightOf_15 ?_
      refine aw_iload_1 C dX6_heightOf_16 ?_
      refine aw_iload_2 C dX6_heightOf_17 ?_
      obtain ⟨q1, e2, hF⟩ := bw_bind hF
      refine bw_V2l C dX6_heightOf_18 kyX6_heightBy lX6_152 kiX6_heightBy kvX6_heightBy (aw_rv C rfl rfl) rfl rfl (ctX6_heightBy n a1 a2 h q1 e2) ?_
      refine aw_goto (tgt := 27) C dX6_heightOf_21 (by decide) ?_
      obtain rfl := Option.some.inj hF
      exact aw_lret C E dX6_heightOf_27 rfl rfl (bw_ret rfl)
def FX6_place (n : Nat) (a1 : Int32) (a2 : Int32) (h : aw_H) : Option (Int32) :=
  (if (FX6_isPart a1 h) = 0 then some (-2 : Int32) else (if (FX6_isTick a2) = 0 then some (-2 : Int32) else ((FX6_placeOf n a1 a2 h).bind (fun q1 => some q1))))
set_option maxRecDepth 100000 in
set_option maxHeartbeats 4000000 in
theorem ctX6_place (n : Nat) (a1 : Int32) (a2 : Int32) (h : aw_H) (y : Int32) (hF : FX6_place n a1 a2 h = some y) : Ct 5 0 0 yX6_place cX6_place 3 (some .int) [.ref 71, .int a1, .int a2] wL wR h (aw_D (some (.int y)) h) := by
  refine Ct.of (ls0 := [.ref 71, .int a1, .int a2]) (by decide +kernel) rfl rfl (fun X C E hnm => ?_)
  have C : aw_C X RX6 cX6_place 3 5 0 0 := C
  unfold FX6_place at hF
  refine aw_aload_0 C dX6_place_0 ?_
  refine aw_iload_1 C dX6_place_1 ?_
  refine bw_V1i C dX6_place_2 kyX6_isPart lX6_69 kiX6_isPart kvX6_isPart (aw_rv C rfl rfl) rfl rfl (ctX6_isPart a1 h _ rfl) ?_
  refine bw_if_eq (tgt := 24) C dX6_place_5 (by decide) hF (fun hF => ?_) (fun hF => ?_)
  · refine aw_bipush C dX6_place_24 lb_m2 ?_
    obtain rfl := Option.some.inj hF
    exact aw_iret C E dX6_place_26 rfl rfl (bw_ret rfl)
  · refine aw_iload_2 C dX6_place_8 ?_
    refine bw_S1i C dX6_place_9 kyX6_isTick lX6_161 ksX6_isTick rfl rfl (ctX6_isTick a2 h _ rfl) ?_
    refine bw_if_eq (tgt := 24) C dX6_place_12 (by decide) hF (fun hF => ?_) (fun hF => ?_)
    · refine aw_bipush C dX6_place_24 lb_m2 ?_
      obtain rfl := Option.some.inj hF
      exact aw_iret C E dX6_place_26 rfl rfl (bw_ret rfl)
    · refine aw_aload_0 C dX6_place_15 ?_
      refine aw_iload_1 C dX6_place_16 ?_
      refine aw_iload_2 C dX6_place_17 ?_
      obtain ⟨q1, e2, hF⟩ := bw_bind hF
      refine bw_V2i C dX6_place_18 kyX6_placeOf lX6_146 kiX6_placeOf kvX6_placeOf (aw_rv C rfl rfl) rfl rfl (ctX6_placeOf n a1 a2 h q1 e2) ?_
      refine aw_goto (tgt := 26) C dX6_place_21 (by decide) ?_
      obtain rfl := Option.some.inj hF
      exact aw_iret C E dX6_place_26 rfl rfl (bw_ret rfl)
def BX6_looks_31 (n : Nat) (a1 : Int32) (a2 : Int32) (a3 : Int32) (a4 : Int32) (u31 : (Int64 × Int32 × Int64 × Int32 × aw_H)) : Option ((Int64 × Int32 × Int64 × Int32 × aw_H) ⊕ aw_H) :=
  (if (a1 + a2) ≤ u31.2.2.2.1 then some (Sum.inr u31.2.2.2.2) else ((FX6_sumAt n (u31.2.2.2.1 + (1 : Int32)) u31.2.2.2.2).bind (fun q3 => (if 0 ≤ ((FJ13_compare_74951 q3 u31.2.2.1) * a3) then (if ((FJ13_compare_74951 q3 u31.2.2.1) * a3) = 0 then some (Sum.inl (u31.1, u31.2.1, q3, (u31.2.2.2.1 + (1 : Int32)), u31.2.2.2.2)) else some (Sum.inl (u31.1, ((FJ13_compare_74951 q3 u31.2.2.1) * a3), q3, (u31.2.2.2.1 + (1 : Int32)), u31.2.2.2.2))) else (if u31.2.1 ≤ 0 then (if ((FJ13_compare_74951 q3 u31.2.2.1) * a3) = 0 then some (Sum.inl (u31.1, u31.2.1, q3, (u31.2.2.2.1 + (1 : Int32)), u31.2.2.2.2)) else some (Sum.inl (u31.1, ((FJ13_compare_74951 q3 u31.2.2.1) * a3), q3, (u31.2.2.2.1 + (1 : Int32)), u31.2.2.2.2))) else (if (u31.2.2.2.2.1 71 3) = a4 then (if ((aw_sI (aw_sI u31.2.2.2.2 71 5 u31.2.2.2.1) 71 3 (((aw_sI u31.2.2.2.2 71 5 u31.2.2.2.1).1 71 3) + (1 : Int32))).1 71 4) = (-1 : Int32) then (if ((FJ13_compare_74951 q3 u31.2.2.1) * a3) = 0 then some (Sum.inl ((u31.2.2.1 * (a3).toInt64), u31.2.1, q3, (u31.2.2.2.1 + (1 : Int32)), (aw_sI (aw_sI (aw_sI u31.2.2.2.2 71 5 u31.2.2.2.1) 71 3 (((aw_sI u31.2.2.2.2 71 5 u31.2.2.2.1).1 71 3) + (1 : Int32))) 71 4 u31.2.2.2.1))) else some (Sum.inl ((u31.2.2.1 * (a3).toInt64), ((FJ13_compare_74951 q3 u31.2.2.1) * a3), q3, (u31.2.2.2.1 + (1 : Int32)), (aw_sI (aw_sI (aw_sI u31.2.2.2.2 71 5 u31.2.2.2.1) 71 3 (((aw_sI u31.2.2.2.2 71 5 u31.2.2.2.1).1 71 3) + (1 : Int32))) 71 4 u31.2.2.2.1)))) else (if (lg_cmp (u31.2.2.1 * (a3).toInt64) u31.1) ≤ 0 then (if ((FJ13_compare_74951 q3 u31.2.2.1) * a3) = 0 then some (Sum.inl (u31.1, u31.2.1, q3, (u31.2.2.2.1 + (1 : Int32)), (aw_sI (aw_sI u31.2.2.2.2 71 5 u31.2.2.2.1) 71 3 (((aw_sI u31.2.2.2.2 71 5 u31.2.2.2.1).1 71 3) + (1 : Int32))))) else some (Sum.inl (u31.1, ((FJ13_compare_74951 q3 u31.2.2.1) * a3), q3, (u31.2.2.2.1 + (1 : Int32)), (aw_sI (aw_sI u31.2.2.2.2 71 5 u31.2.2.2.1) 71 3 (((aw_sI u31.2.2.2.2 71 5 u31.2.2.2.1).1 71 3) + (1 : Int32)))))) else (if ((FJ13_compare_74951 q3 u31.2.2.1) * a3) = 0 then some (Sum.inl ((u31.2.2.1 * (a3).toInt64), u31.2.1, q3, (u31.2.2.2.1 + (1 : Int32)), (aw_sI (aw_sI (aw_sI u31.2.2.2.2 71 5 u31.2.2.2.1) 71 3 (((aw_sI u31.2.2.2.2 71 5 u31.2.2.2.1).1 71 3) + (1 : Int32))) 71 4 u31.2.2.2.1))) else some (Sum.inl ((u31.2.2.1 * (a3).toInt64), ((FJ13_compare_74951 q3 u31.2.2.1) * a3), q3, (u31.2.2.2.1 + (1 : Int32)), (aw_sI (aw_sI (aw_sI u31.2.2.2.2 71 5 u31.2.2.2.1) 71 3 (((aw_sI u31.2.2.2.2 71 5 u31.2.2.2.1).1 71 3) + (1 : Int32))) 71 4 u31.2.2.2.1)))))) else (if ((aw_sI (aw_sI u31.2.2.2.2 71 5 (u31.2.2.2.2.1 71 5)) 71 3 (((aw_sI u31.2.2.2.2 71 5 (u31.2.2.2.2.1 71 5)).1 71 3) + (1 : Int32))).1 71 4) = (-1 : Int32) then (if ((FJ13_compare_74951 q3 u31.2.2.1) * a3) = 0 then some (Sum.inl ((u31.2.2.1 * (a3).toInt64), u31.2.1, q3, (u31.2.2.2.1 + (1 : Int32)), (aw_sI (aw_sI (aw_sI u31.2.2.2.2 71 5 (u31.2.2.2.2.1 71 5)) 71 3 (((aw_sI u31.2.2.2.2 71 5 (u31.2.2.2.2.1 71 5)).1 71 3) + (1 : Int32))) 71 4 u31.2.2.2.1))) else some (Sum.inl ((u31.2.2.1 * (a3).toInt64), ((FJ13_compare_74951 q3 u31.2.2.1) * a3), q3, (u31.2.2.2.1 + (1 : Int32)), (aw_sI (aw_sI (aw_sI u31.2.2.2.2 71 5 (u31.2.2.2.2.1 71 5)) 71 3 (((aw_sI u31.2.2.2.2 71 5 (u31.2.2.2.2.1 71 5)).1 71 3) + (1 : Int32))) 71 4 u31.2.2.2.1)))) else (if (lg_cmp (u31.2.2.1 * (a3).toInt64) u31.1) ≤ 0 then (if ((FJ13_compare_74951 q3 u31.2.2.1) * a3) = 0 then some (Sum.inl (u31.1, u31.2.1, q3, (u31.2.2.2.1 + (1 : Int32)), (aw_sI (aw_sI u31.2.2.2.2 71 5 (u31.2.2.2.2.1 71 5)) 71 3 (((aw_sI u31.2.2.2.2 71 5 (u31.2.2.2.2.1 71 5)).1 71 3) + (1 : Int32))))) else some (Sum.inl (u31.1, ((FJ13_compare_74951 q3 u31.2.2.1) * a3), q3, (u31.2.2.2.1 + (1 : Int32)), (aw_sI (aw_sI u31.2.2.2.2 71 5 (u31.2.2.2.2.1 71 5)) 71 3 (((aw_sI u31.2.2.2.2 71 5 (u31.2.2.2.2.1 71 5)).1 71 3) + (1 : Int32)))))) else (if ((FJ13_compare_74951 q3 u31.2.2.1) * a3) = 0 then some (Sum.inl ((u31.2.2.1 * (a3).toInt64), u31.2.1, q3, (u31.2.2.2.1 + (1 : Int32)), (aw_sI (aw_sI (aw_sI u31.2.2.2.2 71 5 (u31.2.2.2.2.1 71 5)) 71 3 (((aw_sI u31.2.2.2.2 71 5 (u31.2.2.2.2.1 71 5)).1 71 3) + (1 : Int32))) 71 4 u31.2.2.2.1))) else some (Sum.inl ((u31.2.2.1 * (a3).toInt64), ((FJ13_compare_74951 q3 u31.2.2.1) * a3), q3, (u31.2.2.2.1 + (1 : Int32)), (aw_sI (aw_sI (aw_sI u31.2.2.2.2 71 5 (u31.2.2.2.2.1 71 5)) 71 3 (((aw_sI u31.2.2.2.2 71 5 (u31.2.2.2.2.1 71 5)).1 71 3) + (1 : Int32))) 71 4 u31.2.2.2.1))))))))))))
def FX6_looks (n : Nat) (a1 : Int32) (a2 : Int32) (a3 : Int32) (a4 : Int32) (h : aw_H) : Option (aw_H) :=
  ((FX6_sumAt n a1 (aw_sI (aw_sI (aw_sI h 71 3 (0 : Int32)) 71 4 (-1 : Int32)) 71 5 (-1 : Int32))).bind (fun q1 => aw_loop (BX6_looks_31 n a1 a2 a3 a4) n ((0 : Int64), (0 : Int32), q1, a1, (aw_sI (aw_sI (aw_sI h 71 3 (0 : Int32)) 71 4 (-1 : Int32)) 71 5 (-1 : Int32)))))
set_option maxRecDepth 100000 in
set_option maxHeartbeats 4000000 in
theorem ctX6_looks (n : Nat) (a1 : Int32) (a2 : Int32) (a3 : Int32) (a4 : Int32) (h : aw_H) (y : aw_H) (hF : FX6_looks n a1 a2 a3 a4 h = some y) : Ct 7 0 0 yX6_looks cX6_looks 14 none [.ref 71, .int a1, .int a2, .int a3, .int a4] wL wR h (aw_D (none) y) := by
  refine Ct.of (ls0 := [.ref 71, .int a1, .int a2, .int a3, .int a4, .retAddr 0, .retAddr 0, .retAddr 0, .retAddr 0, .retAddr 0, .retAddr 0, .retAddr 0, .retAddr 0, .retAddr 0]) (by decide +kernel) rfl rfl (fun X C E hnm => ?_)
  have C : aw_C X RX6 cX6_looks 14 7 0 0 := C
  unfold FX6_looks at hF
  refine aw_aload_0 C dX6_looks_0 ?_
  refine aw_iconst C dX6_looks_1 li_0 ?_
  refine aw_putI C dX6_looks_2 fX6_164 gX6_3 rfl ?_
  refine aw_aload_0 C dX6_looks_5 ?_
  refine aw_iconst C dX6_looks_6 li_m1 ?_
  refine aw_putI C dX6_looks_7 fX6_168 gX6_4 rfl ?_
  refine aw_aload_0 C dX6_looks_10 ?_
  refine aw_iconst C dX6_looks_11 li_m1 ?_
  refine aw_putI C dX6_looks_12 fX6_171 gX6_5 rfl ?_
  refine aw_lconst C dX6_looks_15 ll_0 ?_
  refine aw_lstore_5 C dX6_looks_16 rfl rfl ?_
  refine aw_iconst C dX6_looks_18 li_0 ?_
  refine aw_istore_7 C dX6_looks_19 rfl rfl ?_
  refine aw_aload_0 C dX6_looks_21 ?_
  refine aw_iload_1 C dX6_looks_22 ?_
  obtain ⟨q1, e2, hF⟩ := bw_bind hF
  refine bw_V1l C dX6_looks_23 kyX6_sumAt lX6_158 kiX6_sumAt kvX6_sumAt (aw_rv C rfl rfl) rfl rfl (ctX6_sumAt n a1 (aw_sI (aw_sI (aw_sI h 71 3 (0 : Int32)) 71 4 (-1 : Int32)) 71 5 (-1 : Int32)) q1 e2) ?_
  refine aw_lstore_8 C dX6_looks_26 rfl rfl ?_
  refine aw_iload_1 C dX6_looks_28 ?_
  refine aw_istore_10 C dX6_looks_29 rfl rfl ?_
  refine aw_loop_rule (fun u31 : (Int64 × Int32 × Int64 × Int32 × aw_H) => AW X 14 31 [.ref 71, .int a1, .int a2, .int a3, .int a4, .long u31.1, .retAddr 0, .int u31.2.1, .long u31.2.2.1, .retAddr 0, .int u31.2.2.2.1, .retAddr 0, .retAddr 0, .retAddr 0] [] wL wR u31.2.2.2.2 0 0) (fun q => q = y) (fun u31 y31 hF hK => ?_) n ((0 : Int64), (0 : Int32), q1, a1, (aw_sI (aw_sI (aw_sI h 71 3 (0 : Int32)) 71 4 (-1 : Int32)) 71 5 (-1 : Int32))) _ hF rfl
  unfold BX6_looks_31 at hF
  refine aw_iload_10 C dX6_looks_31 ?_
  refine aw_iload_1 C dX6_looks_33 ?_
  refine aw_iload_2 C dX6_looks_34 ?_
  refine aw_iadd C dX6_looks_35 ?_
  refine bw_icmp_ge (tgt := 158) C dX6_looks_36 (by decide) hF (fun hF => ?_) (fun hF => ?_)
  · obtain rfl := Option.some.inj hF
    have hK : _ = y := hK
    subst hK
    exact aw_vret C E dX6_looks_158 rfl rfl (bw_ret rfl)
  · refine aw_aload_0 C dX6_looks_39 ?_
    refine aw_iload_10 C dX6_looks_40 ?_
    refine aw_iconst C dX6_looks_42 li_1 ?_
    refine aw_iadd C dX6_looks_43 ?_
    obtain ⟨q3, e4, hF⟩ := bw_bind hF
    refine bw_V1l C dX6_looks_44 kyX6_sumAt lX6_158 kiX6_sumAt kvX6_sumAt (aw_rv C rfl rfl) rfl rfl (ctX6_sumAt n (u31.2.2.2.1 + (1 : Int32)) u31.2.2.2.2 q3 e4) ?_
    refine aw_lstore_11 C dX6_looks_47 rfl rfl ?_
    refine aw_lload_11 C dX6_looks_49 ?_
    refine aw_lload_8 C dX6_looks_51 ?_
    refine bw_S2i C dX6_looks_53 kyJ13_compare_74951 lX6_174 ksJ13_compare_74951 rfl rfl (ctJ13_compare_74951 q3 u31.2.2.1 u31.2.2.2.2 _ rfl) ?_
    refine aw_iload_3 C dX6_looks_56 ?_
    refine aw_imul C dX6_looks_57 ?_
    refine aw_istore_13 C dX6_looks_58 rfl rfl ?_
    refine aw_iload_13 C dX6_looks_60 ?_
    refine bw_if_ge (tgt := 134) C dX6_looks_62 (by decide) hF (fun hF => ?_) (fun hF => ?_)
    · refine aw_iload_13 C dX6_looks_134 ?_
      refine bw_if_ne (tgt := 144) C dX6_looks_136 (by decide) hF (fun hF => ?_) (fun hF => ?_)
      · refine aw_iload_13 C dX6_looks_144 ?_
        refine aw_istore_7 C dX6_looks_146 rfl rfl ?_
        refine aw_lload_11 C dX6_looks_148 ?_
        refine aw_lstore_8 C dX6_looks_150 rfl rfl ?_
        refine aw_iinc_10 C dX6_looks_152 li_1 rfl rfl ?_
        refine aw_goto (tgt := 31) C dX6_looks_155 (by decide) ?_
        cases hF
        exact aw_weak (show aw_le [.ref 71, .int a1, .int a2, .int a3, .int a4, .long u31.1, .retAddr 0, .int ((FJ13_compare_74951 q3 u31.2.2.1) * a3), .long q3, .retAddr 0, .int (u31.2.2.2.1 + (1 : Int32)), .retAddr 0, .retAddr 0, .retAddr 0] [.ref 71, .int a1, .int a2, .int a3, .int a4, .long u31.1, .retAddr 0, .int ((FJ13_compare_74951 q3 u31.2.2.1) * a3), .long q3, .retAddr 0, .int (u31.2.2.2.1 + (1 : Int32)), .long q3, .retAddr 0, .int ((FJ13_compare_74951 q3 u31.2.2.1) * a3)] from ⟨Or.inr rfl, Or.inr rfl, Or.inr rfl, Or.inr rfl, Or.inr rfl, Or.inr rfl, Or.inr rfl, Or.inr rfl, Or.inr rfl, Or.inr rfl, Or.inr rfl, Or.inl rfl, Or.inr rfl, Or.inl rfl, trivial⟩) hK
      · refine aw_iload_7 C dX6_looks_139 ?_
        refine aw_goto (tgt := 146) C dX6_looks_141 (by decide) ?_
        refine aw_istore_7 C dX6_looks_146 rfl rfl ?_
        refine aw_lload_11 C dX6_looks_148 ?_
        refine aw_lstore_8 C dX6_looks_150 rfl rfl ?_
        refine aw_iinc_10 C dX6_looks_152 li_1 rfl rfl ?_
        refine aw_goto (tgt := 31) C dX6_looks_155 (by decide) ?_
        cases hF
        exact aw_weak (show aw_le [.ref 71, .int a1, .int a2, .int a3, .int a4, .long u31.1, .retAddr 0, .int u31.2.1, .long q3, .retAddr 0, .int (u31.2.2.2.1 + (1 : Int32)), .retAddr 0, .retAddr 0, .retAddr 0] [.ref 71, .int a1, .int a2, .int a3, .int a4, .long u31.1, .retAddr 0, .int u31.2.1, .long q3, .retAddr 0, .int (u31.2.2.2.1 + (1 : Int32)), .long q3, .retAddr 0, .int ((FJ13_compare_74951 q3 u31.2.2.1) * a3)] from ⟨Or.inr rfl, Or.inr rfl, Or.inr rfl, Or.inr rfl, Or.inr rfl, Or.inr rfl, Or.inr rfl, Or.inr rfl, Or.inr rfl, Or.inr rfl, Or.inr rfl, Or.inl rfl, Or.inr rfl, Or.inl rfl, trivial⟩) hK
    · refine aw_iload_7 C dX6_looks_65 ?_
      refine bw_if_le (tgt := 134) C dX6_looks_67 (by decide) hF (fun hF => ?_) (fun hF => ?_)
      · refine aw_iload_13 C dX6_looks_134 ?_
        refine bw_if_ne (tgt := 144) C dX6_looks_136 (by decide) hF (fun hF => ?_) (fun hF => ?_)
        · refine aw_iload_13 C dX6_looks_144 ?_
          refine aw_istore_7 C dX6_looks_146 rfl rfl ?_
          refine aw_lload_11 C dX6_looks_148 ?_
          refine aw_lstore_8 C dX6_looks_150 rfl rfl ?_
          refine aw_iinc_10 C dX6_looks_152 li_1 rfl rfl ?_
          refine aw_goto (tgt := 31) C dX6_looks_155 (by decide) ?_
          cases hF
          exact aw_weak (show aw_le [.ref 71, .int a1, .int a2, .int a3, .int a4, .long u31.1, .retAddr 0, .int ((FJ13_compare_74951 q3 u31.2.2.1) * a3), .long q3, .retAddr 0, .int (u31.2.2.2.1 + (1 : Int32)), .retAddr 0, .retAddr 0, .retAddr 0] [.ref 71, .int a1, .int a2, .int a3, .int a4, .long u31.1, .retAddr 0, .int ((FJ13_compare_74951 q3 u31.2.2.1) * a3), .long q3, .retAddr 0, .int (u31.2.2.2.1 + (1 : Int32)), .long q3, .retAddr 0, .int ((FJ13_compare_74951 q3 u31.2.2.1) * a3)] from ⟨Or.inr rfl, Or.inr rfl, Or.inr rfl, Or.inr rfl, Or.inr rfl, Or.inr rfl, Or.inr rfl, Or.inr rfl, Or.inr rfl, Or.inr rfl, Or.inr rfl, Or.inl rfl, Or.inr rfl, Or.inl rfl, trivial⟩) hK
        · refine aw_iload_7 C dX6_looks_139 ?_
          refine aw_goto (tgt := 146) C dX6_looks_141 (by decide) ?_
          refine aw_istore_7 C dX6_looks_146 rfl rfl ?_
          refine aw_lload_11 C dX6_looks_148 ?_
          refine aw_lstore_8 C dX6_looks_150 rfl rfl ?_
          refine aw_iinc_10 C dX6_looks_152 li_1 rfl rfl ?_
          refine aw_goto (tgt := 31) C dX6_looks_155 (by decide) ?_
          cases hF
          exact aw_weak (show aw_le [.ref 71, .int a1, .int a2, .int a3, .int a4, .long u31.1, .retAddr 0, .int u31.2.1, .long q3, .retAddr 0, .int (u31.2.2.2.1 + (1 : Int32)), .retAddr 0, .retAddr 0, .retAddr 0] [.ref 71, .int a1, .int a2, .int a3, .int a4, .long u31.1, .retAddr 0, .int u31.2.1, .long q3, .retAddr 0, .int (u31.2.2.2.1 + (1 : Int32)), .long q3, .retAddr 0, .int ((FJ13_compare_74951 q3 u31.2.2.1) * a3)] from ⟨Or.inr rfl, Or.inr rfl, Or.inr rfl, Or.inr rfl, Or.inr rfl, Or.inr rfl, Or.inr rfl, Or.inr rfl, Or.inr rfl, Or.inr rfl, Or.inr rfl, Or.inl rfl, Or.inr rfl, Or.inl rfl, trivial⟩) hK
      · refine aw_aload_0 C dX6_looks_70 ?_
        refine aw_aload_0 C dX6_looks_71 ?_
        refine aw_getI C dX6_looks_72 fX6_164 gX6_3 rfl ?_
        refine aw_iload_4 C dX6_looks_75 ?_
        refine bw_icmp_ne (tgt := 85) C dX6_looks_77 (by decide) hF (fun hF => ?_) (fun hF => ?_)
        · refine aw_aload_0 C dX6_looks_85 ?_
          refine aw_getI C dX6_looks_86 fX6_171 gX6_5 rfl ?_
          refine aw_putI C dX6_looks_89 fX6_171 gX6_5 rfl ?_
          refine aw_aload_0 C dX6_looks_92 ?_
          refine aw_dup C dX6_looks_93 rfl ?_
          refine aw_getI C dX6_looks_94 fX6_164 gX6_3 rfl ?_
          refine aw_iconst C dX6_looks_97 li_1 ?_
          refine aw_iadd C dX6_looks_98 ?_
          refine aw_putI C dX6_looks_99 fX6_164 gX6_3 rfl ?_
          refine aw_aload_0 C dX6_looks_102 ?_
          refine aw_getI C dX6_looks_103 fX6_168 gX6_4 rfl ?_
          refine aw_iconst C dX6_looks_106 li_m1 ?_
          refine bw_icmp_eq (tgt := 121) C dX6_looks_107 (by decide) hF (fun hF => ?_) (fun hF => ?_)
          · refine aw_lload_8 C dX6_looks_121 ?_
            refine aw_iload_3 C dX6_looks_123 ?_
            refine aw_i2l C dX6_looks_124 ?_
            refine aw_lmul C dX6_looks_125 ?_
            refine aw_lstore_5 C dX6_looks_126 rfl rfl ?_
            refine aw_aload_0 C dX6_looks_128 ?_
            refine aw_iload_10 C dX6_looks_129 ?_
            refine aw_putI C dX6_looks_131 fX6_168 gX6_4 rfl ?_
            refine aw_iload_13 C dX6_looks_134 ?_
            refine bw_if_ne (tgt := 144) C dX6_looks_136 (by decide) hF (fun hF => ?_) (fun hF => ?_)
            · refine aw_iload_13 C dX6_looks_144 ?_
              refine aw_istore_7 C dX6_looks_146 rfl rfl ?_
              refine aw_lload_11 C dX6_looks_148 ?_
              refine aw_lstore_8 C dX6_looks_150 rfl rfl ?_
              refine aw_iinc_10 C dX6_looks_152 li_1 rfl rfl ?_
              refine aw_goto (tgt := 31) C dX6_looks_155 (by decide) ?_
              cases hF
              exact aw_weak (show aw_le [.ref 71, .int a1, .int a2, .int a3, .int a4, .long (u31.2.2.1 * (a3).toInt64), .retAddr 0, .int ((FJ13_compare_74951 q3 u31.2.2.1) * a3), .long q3, .retAddr 0, .int (u31.2.2.2.1 + (1 : Int32)), .retAddr 0, .retAddr 0, .retAddr 0] [.ref 71, .int a1, .int a2, .int a3, .int a4, .long (u31.2.2.1 * (a3).toInt64), .retAddr 0, .int ((FJ13_compare_74951 q3 u31.2.2.1) * a3), .long q3, .retAddr 0, .int (u31.2.2.2.1 + (1 : Int32)), .long q3, .retAddr 0, .int ((FJ13_compare_74951 q3 u31.2.2.1) * a3)] from ⟨Or.inr rfl, Or.inr rfl, Or.inr rfl, Or.inr rfl, Or.inr rfl, Or.inr rfl, Or.inr rfl, Or.inr rfl, Or.inr rfl, Or.inr rfl, Or.inr rfl, Or.inl rfl, Or.inr rfl, Or.inl rfl, trivial⟩) hK
            · refine aw_iload_7 C dX6_looks_139 ?_
              refine aw_goto (tgt := 146) C dX6_looks_141 (by decide) ?_
              refine aw_istore_7 C dX6_looks_146 rfl rfl ?_
              refine aw_lload_11 C dX6_looks_148 ?_
              refine aw_lstore_8 C dX6_looks_150 rfl rfl ?_
              refine aw_iinc_10 C dX6_looks_152 li_1 rfl rfl ?_
              refine aw_goto (tgt := 31) C dX6_looks_155 (by decide) ?_
              cases hF
              exact aw_weak (show aw_le [.ref 71, .int a1, .int a2, .int a3, .int a4, .long (u31.2.2.1 * (a3).toInt64), .retAddr 0, .int u31.2.1, .long q3, .retAddr 0, .int (u31.2.2.2.1 + (1 : Int32)), .retAddr 0, .retAddr 0, .retAddr 0] [.ref 71, .int a1, .int a2, .int a3, .int a4, .long (u31.2.2.1 * (a3).toInt64), .retAddr 0, .int u31.2.1, .long q3, .retAddr 0, .int (u31.2.2.2.1 + (1 : Int32)), .long q3, .retAddr 0, .int ((FJ13_compare_74951 q3 u31.2.2.1) * a3)] from ⟨Or.inr rfl, Or.inr rfl, Or.inr rfl, Or.inr rfl, Or.inr rfl, Or.inr rfl, Or.inr rfl, Or.inr rfl, Or.inr rfl, Or.inr rfl, Or.inr rfl, Or.inl rfl, Or.inr rfl, Or.inl rfl, trivial⟩) hK
          · refine aw_lload_8 C dX6_looks_110 ?_
            refine aw_iload_3 C dX6_looks_112 ?_
            refine aw_i2l C dX6_looks_113 ?_
            refine aw_lmul C dX6_looks_114 ?_
            refine aw_lload_5 C dX6_looks_115 ?_
            refine aw_lcmp C dX6_looks_117 ?_
            refine bw_if_le (tgt := 134) C dX6_looks_118 (by decide) hF (fun hF => ?_) (fun hF => ?_)
            · refine aw_iload_13 C dX6_looks_134 ?_
              refine bw_if_ne (tgt := 144) C dX6_looks_136 (by decide) hF (fun hF => ?_) (fun hF => ?_)
              · refine aw_iload_13 C dX6_looks_144 ?_
                refine aw_istore_7 C dX6_looks_146 rfl rfl ?_
                refine aw_lload_11 C dX6_looks_148 ?_
                refine aw_lstore_8 C dX6_looks_150 rfl rfl ?_
                refine aw_iinc_10 C dX6_looks_152 li_1 rfl rfl ?_
                refine aw_goto (tgt := 31) C dX6_looks_155 (by decide) ?_
                cases hF
                exact aw_weak (show aw_le [.ref 71, .int a1, .int a2, .int a3, .int a4, .long u31.1, .retAddr 0, .int ((FJ13_compare_74951 q3 u31.2.2.1) * a3), .long q3, .retAddr 0, .int (u31.2.2.2.1 + (1 : Int32)), .retAddr 0, .retAddr 0, .retAddr 0] [.ref 71, .int a1, .int a2, .int a3, .int a4, .long u31.1, .retAddr 0, .int ((FJ13_compare_74951 q3 u31.2.2.1) * a3), .long q3, .retAddr 0, .int (u31.2.2.2.1 + (1 : Int32)), .long q3, .retAddr 0, .int ((FJ13_compare_74951 q3 u31.2.2.1) * a3)] from ⟨Or.inr rfl, Or.inr rfl, Or.inr rfl, Or.inr rfl, Or.inr rfl, Or.inr rfl, Or.inr rfl, Or.inr rfl, Or.inr rfl, Or.inr rfl, Or.inr rfl, Or.inl rfl, Or.inr rfl, Or.inl rfl, trivial⟩) hK
              · refine aw_iload_7 C dX6_looks_139 ?_
                refine aw_goto (tgt := 146) C dX6_looks_141 (by decide) ?_
                refine aw_istore_7 C dX6_looks_146 rfl rfl ?_
                refine aw_lload_11 C dX6_looks_148 ?_
                refine aw_lstore_8 C dX6_looks_150 rfl rfl ?_
                refine aw_iinc_10 C dX6_looks_152 li_1 rfl rfl ?_
                refine aw_goto (tgt := 31) C dX6_looks_155 (by decide) ?_
                cases hF
                exact aw_weak (show aw_le [.ref 71, .int a1, .int a2, .int a3, .int a4, .long u31.1, .retAddr 0, .int u31.2.1, .long q3, .retAddr 0, .int (u31.2.2.2.1 + (1 : Int32)), .retAddr 0, .retAddr 0, .retAddr 0] [.ref 71, .int a1, .int a2, .int a3, .int a4, .long u31.1, .retAddr 0, .int u31.2.1, .long q3, .retAddr 0, .int (u31.2.2.2.1 + (1 : Int32)), .long q3, .retAddr 0, .int ((FJ13_compare_74951 q3 u31.2.2.1) * a3)] from ⟨Or.inr rfl, Or.inr rfl, Or.inr rfl, Or.inr rfl, Or.inr rfl, Or.inr rfl, Or.inr rfl, Or.inr rfl, Or.inr rfl, Or.inr rfl, Or.inr rfl, Or.inl rfl, Or.inr rfl, Or.inl rfl, trivial⟩) hK
            · refine aw_lload_8 C dX6_looks_121 ?_
              refine aw_iload_3 C dX6_looks_123 ?_
              refine aw_i2l C dX6_looks_124 ?_
              refine aw_lmul C dX6_looks_125 ?_
              refine aw_lstore_5 C dX6_looks_126 rfl rfl ?_
              refine aw_aload_0 C dX6_looks_128 ?_
              refine aw_iload_10 C dX6_looks_129 ?_
              refine aw_putI C dX6_looks_131 fX6_168 gX6_4 rfl ?_
              refine aw_iload_13 C dX6_looks_134 ?_
              refine bw_if_ne (tgt := 144) C dX6_looks_136 (by decide) hF (fun hF => ?_) (fun hF => ?_)
              · refine aw_iload_13 C dX6_looks_144 ?_
                refine aw_istore_7 C dX6_looks_146 rfl rfl ?_
                refine aw_lload_11 C dX6_looks_148 ?_
                refine aw_lstore_8 C dX6_looks_150 rfl rfl ?_
                refine aw_iinc_10 C dX6_looks_152 li_1 rfl rfl ?_
                refine aw_goto (tgt := 31) C dX6_looks_155 (by decide) ?_
                cases hF
                exact aw_weak (show aw_le [.ref 71, .int a1, .int a2, .int a3, .int a4, .long (u31.2.2.1 * (a3).toInt64), .retAddr 0, .int ((FJ13_compare_74951 q3 u31.2.2.1) * a3), .long q3, .retAddr 0, .int (u31.2.2.2.1 + (1 : Int32)), .retAddr 0, .retAddr 0, .retAddr 0] [.ref 71, .int a1, .int a2, .int a3, .int a4, .long (u31.2.2.1 * (a3).toInt64), .retAddr 0, .int ((FJ13_compare_74951 q3 u31.2.2.1) * a3), .long q3, .retAddr 0, .int (u31.2.2.2.1 + (1 : Int32)), .long q3, .retAddr 0, .int ((FJ13_compare_74951 q3 u31.2.2.1) * a3)] from ⟨Or.inr rfl, Or.inr rfl, Or.inr rfl, Or.inr rfl, Or.inr rfl, Or.inr rfl, Or.inr rfl, Or.inr rfl, Or.inr rfl, Or.inr rfl, Or.inr rfl, Or.inl rfl, Or.inr rfl, Or.inl rfl, trivial⟩) hK
              · refine aw_iload_7 C dX6_looks_139 ?_
                refine aw_goto (tgt := 146) C dX6_looks_141 (by decide) ?_
                refine aw_istore_7 C dX6_looks_146 rfl rfl ?_
                refine aw_lload_11 C dX6_looks_148 ?_
                refine aw_lstore_8 C dX6_looks_150 rfl rfl ?_
                refine aw_iinc_10 C dX6_looks_152 li_1 rfl rfl ?_
                refine aw_goto (tgt := 31) C dX6_looks_155 (by decide) ?_
                cases hF
                exact aw_weak (show aw_le [.ref 71, .int a1, .int a2, .int a3, .int a4, .long (u31.2.2.1 * (a3).toInt64), .retAddr 0, .int u31.2.1, .long q3, .retAddr 0, .int (u31.2.2.2.1 + (1 : Int32)), .retAddr 0, .retAddr 0, .retAddr 0] [.ref 71, .int a1, .int a2, .int a3, .int a4, .long (u31.2.2.1 * (a3).toInt64), .retAddr 0, .int u31.2.1, .long q3, .retAddr 0, .int (u31.2.2.2.1 + (1 : Int32)), .long q3, .retAddr 0, .int ((FJ13_compare_74951 q3 u31.2.2.1) * a3)] from ⟨Or.inr rfl, Or.inr rfl, Or.inr rfl, Or.inr rfl, Or.inr rfl, Or.inr rfl, Or.inr rfl, Or.inr rfl, Or.inr rfl, Or.inr rfl, Or.inr rfl, Or.inl rfl, Or.inr rfl, Or.inl rfl, trivial⟩) hK
        · refine aw_iload_10 C dX6_looks_80 ?_
          refine aw_goto (tgt := 89) C dX6_looks_82 (by decide) ?_
          refine aw_putI C dX6_looks_89 fX6_171 gX6_5 rfl ?_
          refine aw_aload_0 C dX6_looks_92 ?_
          refine aw_dup C dX6_looks_93 rfl ?_
          refine aw_getI C dX6_looks_94 fX6_164 gX6_3 rfl ?_
          refine aw_iconst C dX6_looks_97 li_1 ?_
          refine aw_iadd C dX6_looks_98 ?_
          refine aw_putI C dX6_looks_99 fX6_164 gX6_3 rfl ?_
          refine aw_aload_0 C dX6_looks_102 ?_
          refine aw_getI C dX6_looks_103 fX6_168 gX6_4 rfl ?_
          refine aw_iconst C dX6_looks_106 li_m1 ?_
          refine bw_icmp_eq (tgt := 121) C dX6_looks_107 (by decide) hF (fun hF => ?_) (fun hF => ?_)
          · refine aw_lload_8 C dX6_looks_121 ?_
            refine aw_iload_3 C dX6_looks_123 ?_
            refine aw_i2l C dX6_looks_124 ?_
            refine aw_lmul C dX6_looks_125 ?_
            refine aw_lstore_5 C dX6_looks_126 rfl rfl ?_
            refine aw_aload_0 C dX6_looks_128 ?_
            refine aw_iload_10 C dX6_looks_129 ?_
            refine aw_putI C dX6_looks_131 fX6_168 gX6_4 rfl ?_
            refine aw_iload_13 C dX6_looks_134 ?_
            refine bw_if_ne (tgt := 144) C dX6_looks_136 (by decide) hF (fun hF => ?_) (fun hF => ?_)
            · refine aw_iload_13 C dX6_looks_144 ?_
              refine aw_istore_7 C dX6_looks_146 rfl rfl ?_
              refine aw_lload_11 C dX6_looks_148 ?_
              refine aw_lstore_8 C dX6_looks_150 rfl rfl ?_
              refine aw_iinc_10 C dX6_looks_152 li_1 rfl rfl ?_
              refine aw_goto (tgt := 31) C dX6_looks_155 (by decide) ?_
              cases hF
              exact aw_weak (show aw_le [.ref 71, .int a1, .int a2, .int a3, .int a4, .long (u31.2.2.1 * (a3).toInt64), .retAddr 0, .int ((FJ13_compare_74951 q3 u31.2.2.1) * a3), .long q3, .retAddr 0, .int (u31.2.2.2.1 + (1 : Int32)), .retAddr 0, .retAddr 0, .retAddr 0] [.ref 71, .int a1, .int a2, .int a3, .int a4, .long (u31.2.2.1 * (a3).toInt64), .retAddr 0, .int ((FJ13_compare_74951 q3 u31.2.2.1) * a3), .long q3, .retAddr 0, .int (u31.2.2.2.1 + (1 : Int32)), .long q3, .retAddr 0, .int ((FJ13_compare_74951 q3 u31.2.2.1) * a3)] from ⟨Or.inr rfl, Or.inr rfl, Or.inr rfl, Or.inr rfl, Or.inr rfl, Or.inr rfl, Or.inr rfl, Or.inr rfl, Or.inr rfl, Or.inr rfl, Or.inr rfl, Or.inl rfl, Or.inr rfl, Or.inl rfl, trivial⟩) hK
            · refine aw_iload_7 C dX6_looks_139 ?_
              refine aw_goto (tgt := 146) C dX6_looks_141 (by decide) ?_
              refine aw_istore_7 C dX6_looks_146 rfl rfl ?_
              refine aw_lload_11 C dX6_looks_148 ?_
              refine aw_lstore_8 C dX6_looks_150 rfl rfl ?_
              refine aw_iinc_10 C dX6_looks_152 li_1 rfl rfl ?_
              refine aw_goto (tgt := 31) C dX6_looks_155 (by decide) ?_
              cases hF
              exact aw_weak (show aw_le [.ref 71, .int a1, .int a2, .int a3, .int a4, .long (u31.2.2.1 * (a3).toInt64), .retAddr 0, .int u31.2.1, .long q3, .retAddr 0, .int (u31.2.2.2.1 + (1 : Int32)), .retAddr 0, .retAddr 0, .retAddr 0] [.ref 71, .int a1, .int a2, .int a3, .int a4, .long (u31.2.2.1 * (a3).toInt64), .retAddr 0, .int u31.2.1, .long q3, .retAddr 0, .int (u31.2.2.2.1 + (1 : Int32)), .long q3, .retAddr 0, .int ((FJ13_compare_74951 q3 u31.2.2.1) * a3)] from ⟨Or.inr rfl, Or.inr rfl, Or.inr rfl, Or.inr rfl, Or.inr rfl, Or.inr rfl, Or.inr rfl, Or.inr rfl, Or.inr rfl, Or.inr rfl, Or.inr rfl, Or.inl rfl, Or.inr rfl, Or.inl rfl, trivial⟩) hK
          · refine aw_lload_8 C dX6_looks_110 ?_
            refine aw_iload_3 C dX6_looks_112 ?_
            refine aw_i2l C dX6_looks_113 ?_
            refine aw_lmul C dX6_looks_114 ?_
            refine aw_lload_5 C dX6_looks_115 ?_
            refine aw_lcmp C dX6_looks_117 ?_
            refine bw_if_le (tgt := 134) C dX6_looks_118 (by decide) hF (fun hF => ?_) (fun hF => ?_)
            · refine aw_iload_13 C dX6_looks_134 ?_
              refine bw_if_ne (tgt := 144) C dX6_looks_136 (by decide) hF (fun hF => ?_) (fun hF => ?_)
              · refine aw_iload_13 C dX6_looks_144 ?_
                refine aw_istore_7 C dX6_looks_146 rfl rfl ?_
                refine aw_lload_11 C dX6_looks_148 ?_
                refine aw_lstore_8 C dX6_looks_150 rfl rfl ?_
                refine aw_iinc_10 C dX6_looks_152 li_1 rfl rfl ?_
                refine aw_goto (tgt := 31) C dX6_looks_155 (by decide) ?_
                cases hF
                exact aw_weak (show aw_le [.ref 71, .int a1, .int a2, .int a3, .int a4, .long u31.1, .retAddr 0, .int ((FJ13_compare_74951 q3 u31.2.2.1) * a3), .long q3, .retAddr 0, .int (u31.2.2.2.1 + (1 : Int32)), .retAddr 0, .retAddr 0, .retAddr 0] [.ref 71, .int a1, .int a2, .int a3, .int a4, .long u31.1, .retAddr 0, .int ((FJ13_compare_74951 q3 u31.2.2.1) * a3), .long q3, .retAddr 0, .int (u31.2.2.2.1 + (1 : Int32)), .long q3, .retAddr 0, .int ((FJ13_compare_74951 q3 u31.2.2.1) * a3)] from ⟨Or.inr rfl, Or.inr rfl, Or.inr rfl, Or.inr rfl, Or.inr rfl, Or.inr rfl, Or.inr rfl, Or.inr rfl, Or.inr rfl, Or.inr rfl, Or.inr rfl, Or.inl rfl, Or.inr rfl, Or.inl rfl, trivial⟩) hK
              · refine aw_iload_7 C dX6_looks_139 ?_
                refine aw_goto (tgt := 146) C dX6_looks_141 (by decide) ?_
                refine aw_istore_7 C dX6_looks_146 rfl rfl ?_
                refine aw_lload_11 C dX6_looks_148 ?_
                refine aw_lstore_8 C dX6_looks_150 rfl rfl ?_
                refine aw_iinc_10 C dX6_looks_152 li_1 rfl rfl ?_
                refine aw_goto (tgt := 31) C dX6_looks_155 (by decide) ?_
                cases hF
                exact aw_weak (show aw_le [.ref 71, .int a1, .int a2, .int a3, .int a4, .long u31.1, .retAddr 0, .int u31.2.1, .long q3, .retAddr 0, .int (u31.2.2.2.1 + (1 : Int32)), .retAddr 0, .retAddr 0, .retAddr 0] [.ref 71, .int a1, .int a2, .int a3, .int a4, .long u31.1, .retAddr 0, .int u31.2.1, .long q3, .retAddr 0, .int (u31.2.2.2.1 + (1 : Int32)), .long q3, .retAddr 0, .int ((FJ13_compare_74951 q3 u31.2.2.1) * a3)] from ⟨Or.inr rfl, Or.inr rfl, Or.inr rfl, Or.inr rfl, Or.inr rfl, Or.inr rfl, Or.inr rfl, Or.inr rfl, Or.inr rfl, Or.inr rfl, Or.inr rfl, Or.inl rfl, Or.inr rfl, Or.inl rfl, trivial⟩) hK
            · refine aw_lload_8 C dX6_looks_121 ?_
              refine aw_iload_3 C dX6_looks_123 ?_
              refine aw_i2l C dX6_looks_124 ?_
              refine aw_lmul C dX6_looks_125 ?_
              refine aw_lstore_5 C dX6_looks_126 rfl rfl ?_
              refine aw_aload_0 C dX6_looks_128 ?_
              refine aw_iload_10 C dX6_looks_129 ?_
              refine aw_putI C dX6_looks_131 fX6_168 gX6_4 rfl ?_
              refine aw_iload_13 C dX6_looks_134 ?_
              refine bw_if_ne (tgt := 144) C dX6_looks_136 (by decide) hF (fun hF => ?_) (fun hF => ?_)
              · refine aw_iload_13 C dX6_looks_144 ?_
                refine aw_istore_7 C dX6_looks_146 rfl rfl ?_
                refine aw_lload_11 C dX6_looks_148 ?_
                refine aw_lstore_8 C dX6_looks_150 rfl rfl ?_
                refine aw_iinc_10 C dX6_looks_152 li_1 rfl rfl ?_
                refine aw_goto (tgt := 31) C dX6_looks_155 (by decide) ?_
                cases hF
                exact aw_weak (show aw_le [.ref 71, .int a1, .int a2, .int a3, .int a4, .long (u31.2.2.1 * (a3).toInt64), .retAddr 0, .int ((FJ13_compare_74951 q3 u31.2.2.1) * a3), .long q3, .retAddr 0, .int (u31.2.2.2.1 + (1 : Int32)), .retAddr 0, .retAddr 0, .retAddr 0] [.ref 71, .int a1, .int a2, .int a3, .int a4, .long (u31.2.2.1 * (a3).toInt64), .retAddr 0, .int ((FJ13_compare_74951 q3 u31.2.2.1) * a3), .long q3, .retAddr 0, .int (u31.2.2.2.1 + (1 : Int32)), .long q3, .retAddr 0, .int ((FJ13_compare_74951 q3 u31.2.2.1) * a3)] from ⟨Or.inr rfl, Or.inr rfl, Or.inr rfl, Or.inr rfl, Or.inr rfl, Or.inr rfl, Or.inr rfl, Or.inr rfl, Or.inr rfl, Or.inr rfl, Or.inr rfl, Or.inl rfl, Or.inr rfl, Or.inl rfl, trivial⟩) hK
              · refine aw_iload_7 C dX6_looks_139 ?_
                refine aw_goto (tgt := 146) C dX6_looks_141 (by decide) ?_
                refine aw_istore_7 C dX6_looks_146 rfl rfl ?_
                refine aw_lload_11 C dX6_looks_148 ?_
                refine aw_lstore_8 C dX6_looks_150 rfl rfl ?_
                refine aw_iinc_10 C dX6_looks_152 li_1 rfl rfl ?_
                refine aw_goto (tgt := 31) C dX6_looks_155 (by decide) ?_
                cases hF
                exact aw_weak (show aw_le [.ref 71, .int a1, .int a2, .int a3, .int a4, .long (u31.2.2.1 * (a3).toInt64), .retAddr 0, .int u31.2.1, .long q3, .retAddr 0, .int (u31.2.2.2.1 + (1 : Int32)), .retAddr 0, .retAddr 0, .retAddr 0] [.ref 71, .int a1, .int a2, .int a3, .int a4, .long (u31.2.2.1 * (a3).toInt64), .retAddr 0, .int u31.2.1, .long q3, .retAddr 0, .int (u31.2.2.2.1 + (1 : Int32)), .long q3, .retAddr 0, .int ((FJ13_compare_74951 q3 u31.2.2.1) * a3)] from ⟨Or.inr rfl, Or.inr rfl, Or.inr rfl, Or.inr rfl, Or.inr rfl, Or.inr rfl, Or.inr rfl, Or.inr rfl, Or.inr rfl, Or.inr rfl, Or.inr rfl, Or.inl rfl, Or.inr rfl, Or.inl rfl, trivial⟩) hK

def FX6_areWaters (a1 : Int32) (a2 : Int32) (a3 : Int32) : Int32 :=
  (if (FX6_isTick a1) = 0 then (0 : Int32) else (if (FX6_isIn ((a2).toInt64) (1 : Int64) ((a3).toInt64)) = 0 then (0 : Int32) else (1 : Int32)))
set_option maxRecDepth 100000 in
set_option maxHeartbeats 4000000 in
theorem ctX6_areWaters (a1 : Int32) (a2 : Int32) (a3 : Int32) (h : aw_H) (y : Int32) (hF : FX6_areWaters a1 a2 a3 = y) : Ct 2 0 0 yX6_areWaters cX6_areWaters 3 (some .boolean) [.int a1, .int a2, .int a3] wL wR h (aw_D (some (.int y)) h) := by
  refine Ct.of (ls0 := [.int a1, .int a2, .int a3]) (by decide +kernel) rfl rfl (fun X C E hnm => ?_)
  have C : aw_C X RX6 cX6_areWaters 3 2 0 0 := C
  unfold FX6_areWaters at hF
  refine aw_iload_0 C dX6_areWaters_0 ?_
  refine bw_S1i C dX6_areWaters_1 kyX6_isTick lX6_161 ksX6_isTick rfl rfl (ctX6_isTick a1 h _ rfl) ?_
  refine bw_if_eq (tgt := 22) C dX6_areWaters_4 (by decide) hF (fun hF => ?_) (fun hF => ?_)
  · refine aw_iconst C dX6_areWaters_22 li_0 ?_
    subst hF
    exact aw_zret C E rfl dX6_areWaters_23 rfl rfl (bw_ret rfl)
  · refine aw_iload_1 C dX6_areWaters_7 ?_
    refine aw_i2l C dX6_areWaters_8 ?_
    refine aw_lconst C dX6_areWaters_9 ll_1 ?_
    refine aw_iload_2 C dX6_areWaters_10 ?_
    refine aw_i2l C dX6_areWaters_11 ?_
    refine bw_S3i C dX6_areWaters_12 kyX6_isIn lX6_49 ksX6_isIn rfl rfl (ctX6_isIn ((a2).toInt64) (1 : Int64) ((a3).toInt64) h _ rfl) ?_
    refine bw_if_eq (tgt := 22) C dX6_areWaters_15 (by decide) hF (fun hF => ?_) (fun hF => ?_)
    · refine aw_iconst C dX6_areWaters_22 li_0 ?_
      subst hF
      exact aw_zret C E rfl dX6_areWaters_23 rfl rfl (bw_ret rfl)
    · refine aw_iconst C dX6_areWaters_18 li_1 ?_
      refine aw_goto (tgt := 23) C dX6_areWaters_19 (by decide) ?_
      subst hF
      exact aw_zret C E rfl dX6_areWaters_23 rfl rfl (bw_ret rfl)
theorem bX6_areWaters (a1 : Int32) (a2 : Int32) (a3 : Int32) : FX6_areWaters a1 a2 a3 = 0 ∨ FX6_areWaters a1 a2 a3 = 1 := by
  unfold FX6_areWaters
  repeat' split
  all_goals first | exact Or.inl rfl | exact Or.inr rfl | exact bX6_isIn _ _ _ | exact bX6_isTick _
def FX6_waters (n : Nat) (a1 : Int32) (a2 : Int32) (a3 : Int32) (h : aw_H) : Option (Int32 × aw_H) :=
  (if (FX6_areWaters a1 a2 (2000 : Int32)) = 0 then some ((-2 : Int32), h) else (if (FX6_isIn ((a3).toInt64) (0 : Int64) (3 : Int64)) = 0 then some ((-2 : Int32), h) else (if (a3 - (a3 / (2 : Int32)) * (2 : Int32)) = 0 then ((FX6_looks n a1 a2 (1 : Int32) (0 : Int32) h).bind (fun q3 => (if (2 : Int32) ≤ a3 then some ((q3.1 71 4), q3) else some ((q3.1 71 3), q3)))) else ((FX6_looks n a1 a2 (-1 : Int32) (0 : Int32) h).bind (fun q1 => (if (2 : Int32) ≤ a3 then some ((q1.1 71 4), q1) else some ((q1.1 71 3), q1)))))))
set_option maxRecDepth 100000 in
set_option maxHeartbeats 4000000 in
theorem ctX6_waters (n : Nat) (a1 : Int32) (a2 : Int32) (a3 : Int32) (h : aw_H) (y : Int32 × aw_H) (hF : FX6_waters n a1 a2 a3 h = some y) : Ct 8 0 0 yX6_waters cX6_waters 4 (some .int) [.ref 71, .int a1, .int a2, .int a3] wL wR h (aw_D (some (.int y.1)) y.2) := by
  refine Ct.of (ls0 := [.ref 71, .int a1, .int a2, .int a3]) (by decide +kernel) rfl rfl (fun X C E hnm => ?_)
  have C : aw_C X RX6 cX6_waters 4 8 0 0 := C
  unfold FX6_waters at hF
  refine aw_iload_1 C dX6_waters_0 ?_
  refine aw_iload_2 C dX6_waters_1 ?_
  refine aw_sipush C dX6_waters_2 ls_2000 ?_
  refine bw_S3i C dX6_waters_5 kyX6_areWaters lX6_178 ksX6_areWaters rfl rfl (ctX6_areWaters a1 a2 (2000 : Int32) h _ rfl) ?_
  refine bw_if_eq (tgt := 23) C dX6_waters_8 (by decide) hF (fun hF => ?_) (fun hF => ?_)
  · refine aw_bipush C dX6_waters_23 lb_m2 ?_
    obtain rfl := Option.some.inj hF
    exact aw_iret C E dX6_waters_25 rfl rfl (bw_ret rfl)
  · refine aw_iload_3 C dX6_waters_11 ?_
    refine aw_i2l C dX6_waters_12 ?_
    refine aw_lconst C dX6_waters_13 ll_0 ?_
    refine aw_ldc2 C dX6_waters_14 nX6_104 ?_
    refine bw_S3i C dX6_waters_17 kyX6_isIn lX6_49 ksX6_isIn rfl rfl (ctX6_isIn ((a3).toInt64) (0 : Int64) (3 : Int64) h _ rfl) ?_
    refine bw_if_ne (tgt := 26) C dX6_waters_20 (by decide) hF (fun hF => ?_) (fun hF => ?_)
    · refine aw_aload_0 C dX6_waters_26 ?_
      refine aw_iload_1 C dX6_waters_27 ?_
      refine aw_iload_2 C dX6_waters_28 ?_
      refine aw_iload_3 C dX6_waters_29 ?_
      refine aw_iconst C dX6_waters_30 li_2 ?_
      refine aw_irem C dX6_waters_31 (by decide) ?_
      refine bw_if_ne (tgt := 39) C dX6_waters_32 (by decide) hF (fun hF => ?_) (fun hF => ?_)
      · refine aw_iconst C dX6_waters_39 li_m1 ?_
        refine aw_iconst C dX6_waters_40 li_0 ?_
        obtain ⟨q1, e2, hF⟩ := bw_bind hF
        refine bw_V4v C dX6_waters_41 kyX6_looks lX6_182 kiX6_looks kvX6_looks (aw_rv C rfl rfl) rfl rfl (ctX6_looks n a1 a2 (-1 : Int32) (0 : Int32) h q1 e2) ?_
        refine aw_iload_3 C dX6_waters_44 ?_
        refine aw_iconst C dX6_waters_45 li_2 ?_
        refine bw_icmp_ge (tgt := 56) C dX6_waters_46 (by decide) hF (fun hF => ?_) (fun hF => ?_)
        · refine aw_aload_0 C dX6_waters_56 ?_
          refine aw_getI C dX6_waters_57 fX6_168 gX6_4 rfl ?_
          obtain rfl := Option.some.inj hF
          exact aw_iret C E dX6_waters_60 rfl rfl (bw_ret rfl)
        · refine aw_aload_0 C dX6_waters_49 ?_
          refine aw_getI C dX6_waters_50 fX6_164 gX6_3 rfl ?_
          refine aw_goto (tgt := 60) C dX6_waters_53 (by decide) ?_
          obtain rfl := Option.some.inj hF
          exact aw_iret C E dX6_waters_60 rfl rfl (bw_ret rfl)
      · refine aw_iconst C dX6_waters_35 li_1 ?_
        refine aw_goto (tgt := 40) C dX6_waters_36 (by decide) ?_
        refine aw_iconst C dX6_waters_40 li_0 ?_
        obtain ⟨q3, e4, hF⟩ := bw_bind hF
        refine bw_V4v C dX6_waters_41 kyX6_looks lX6_182 kiX6_looks kvX6_looks (aw_rv C rfl rfl) rfl rfl (ctX6_looks n a1 a2 (1 : Int32) (0 : Int32) h q3 e4) ?_
        refine aw_iload_3 C dX6_waters_44 ?_
        refine aw_iconst C dX6_waters_45 li_2 ?_
        refine bw_icmp_ge (tgt := 56) C dX6_waters_46 (by decide) hF (fun hF => ?_) (fun hF => ?_)
        · refine aw_aload_0 C dX6_waters_56 ?_
          refine aw_getI C dX6_waters_57 fX6_168 gX6_4 rfl ?_
          obtain rfl := Option.some.inj hF
          exact aw_iret C E dX6_waters_60 rfl rfl (bw_ret rfl)
        · refine aw_aload_0 C dX6_waters_49 ?_
          refine aw_getI C dX6_waters_50 fX6_164 gX6_3 rfl ?_
          refine aw_goto (tgt := 60) C dX6_waters_53 (by decide) ?_
          obtain rfl := Option.some.inj hF
          exact aw_iret C E dX6_waters_60 rfl rfl (bw_ret rfl)
    · refine aw_bipush C dX6_waters_23 lb_m2 ?_
      obtain rfl := Option.some.inj hF
      exact aw_iret C E dX6_waters_25 rfl rfl (bw_ret rfl)
def FX6_water (n : Nat) (a1 : Int32) (a2 : Int32) (a3 : Int32) (a4 : Int32) (h : aw_H) : Option (Int32 × aw_H) :=
  (if (FX6_areWaters a1 a2 (2000 : Int32)) = 0 then some ((-2 : Int32), h) else (if (FX6_isLine a3) = 0 then some ((-2 : Int32), h) else (if 0 ≤ a4 then (if a3 = 0 then ((FX6_looks n a1 a2 (1 : Int32) a4 h).bind (fun q3 => some ((q3.1 71 5), q3))) else ((FX6_looks n a1 a2 (-1 : Int32) a4 h).bind (fun q1 => some ((q1.1 71 5), q1)))) else some ((-2 : Int32), h))))
set_option maxRecDepth 100000 in
set_option maxHeartbeats 4000000 in
theorem ctX6_water (n : Nat) (a1 : Int32) (a2 : Int32) (a3 : Int32) (a4 : Int32) (h : aw_H) (y : Int32 × aw_H) (hF : FX6_water n a1 a2 a3 a4 h = some y) : Ct 8 0 0 yX6_water cX6_water 5 (some .int) [.ref 71, .int a1, .int a2, .int a3, .int a4] wL wR h (aw_D (some (.int y.1)) y.2) := by
  refine Ct.of (ls0 := [.ref 71, .int a1, .int a2, .int a3, .int a4]) (by decide +kernel) rfl rfl (fun X C E hnm => ?_)
  have C : aw_C X RX6 cX6_water 5 8 0 0 := C
  unfold FX6_water at hF
  refine aw_iload_1 C dX6_water_0 ?_
  refine aw_iload_2 C dX6_water_1 ?_
  refine aw_sipush C dX6_water_2 ls_2000 ?_
  refine bw_S3i C dX6_water_5 kyX6_areWaters lX6_178 ksX6_areWaters rfl rfl (ctX6_areWaters a1 a2 (2000 : Int32) h _ rfl) ?_
  refine bw_if_eq (tgt := 23) C dX6_water_8 (by decide) hF (fun hF => ?_) (fun hF => ?_)
  · refine aw_bipush C dX6_water_23 lb_m2 ?_
    obtain rfl := Option.some.inj hF
    exact aw_iret C E dX6_water_25 rfl rfl (bw_ret rfl)
  · refine aw_iload_3 C dX6_water_11 ?_
    refine bw_S1i C dX6_water_12 kyX6_isLine lX6_122 ksX6_isLine rfl rfl (ctX6_isLine a3 h _ rfl) ?_
    refine bw_if_eq (tgt := 23) C dX6_water_15 (by decide) hF (fun hF => ?_) (fun hF => ?_)
    · refine aw_bipush C dX6_water_23 lb_m2 ?_
      obtain rfl := Option.some.inj hF
      exact aw_iret C E dX6_water_25 rfl rfl (bw_ret rfl)
    · refine aw_iload_4 C dX6_water_18 ?_
      refine bw_if_ge (tgt := 26) C dX6_water_20 (by decide) hF (fun hF => ?_) (fun hF => ?_)
      · refine aw_aload_0 C dX6_water_26 ?_
        refine aw_iload_1 C dX6_water_27 ?_
        refine aw_iload_2 C dX6_water_28 ?_
        refine aw_iload_3 C dX6_water_29 ?_
        refine bw_if_ne (tgt := 37) C dX6_water_30 (by decide) hF (fun hF => ?_) (fun hF => ?_)
        · refine aw_iconst C dX6_water_37 li_m1 ?_
          refine aw_iload_4 C dX6_water_38 ?_
          obtain ⟨q1, e2, hF⟩ := bw_bind hF
          refine bw_V4v C dX6_water_40 kyX6_looks lX6_182 kiX6_looks kvX6_looks (aw_rv C rfl rfl) rfl rfl (ctX6_looks n a1 a2 (-1 : Int32) a4 h q1 e2) ?_
          refine aw_aload_0 C dX6_water_43 ?_
          refine aw_getI C dX6_water_44 fX6_171 gX6_5 rfl ?_
          obtain rfl := Option.some.inj hF
          exact aw_iret C E dX6_water_47 rfl rfl (bw_ret rfl)
        · refine aw_iconst C dX6_water_33 li_1 ?_
          refine aw_goto (tgt := 38) C dX6_water_34 (by decide) ?_
          refine aw_iload_4 C dX6_water_38 ?_
          obtain ⟨q3, e4, hF⟩ := bw_bind hF
          refine bw_V4v C dX6_water_40 kyX6_looks lX6_182 kiX6_looks kvX6_looks (aw_rv C rfl rfl) rfl rfl (ctX6_looks n a1 a2 (1 : Int32) a4 h q3 e4) ?_
          refine aw_aload_0 C dX6_water_43 ?_
          refine aw_getI C dX6_water_44 fX6_171 gX6_5 rfl ?_
          obtain rfl := Option.some.inj hF
          exact aw_iret C E dX6_water_47 rfl rfl (bw_ret rfl)
      · refine aw_bipush C dX6_water_23 lb_m2 ?_
        obtain rfl := Option.some.inj hF
        exact aw_iret C E dX6_water_25 rfl rfl (bw_ret rfl)
def FX6_isSheet (a1 : Int32) : Int32 :=
  (FX6_isIn ((a1).toInt64) (0 : Int64) (3 : Int64))
set_option maxRecDepth 100000 in
set_option maxHeartbeats 4000000 in
theorem ctX6_isSheet (a1 : Int32) (h : aw_H) (y : Int32) (hF : FX6_isSheet a1 = y) : Ct 1 0 0 yX6_isSheet cX6_isSheet 1 (some .boolean) [.int a1] wL wR h (aw_D (some (.int y)) h) := by
  refine Ct.of (ls0 := [.int a1]) (by decide +kernel) rfl rfl (fun X C E hnm => ?_)
  have C : aw_C X RX6 cX6_isSheet 1 1 0 0 := C
  unfold FX6_isSheet at hF
  refine aw_iload_0 C dX6_isSheet_0 ?_
  refine aw_i2l C dX6_isSheet_1 ?_
  refine aw_lconst C dX6_isSheet_2 ll_0 ?_
  refine aw_ldc2 C dX6_isSheet_3 nX6_104 ?_
  refine bw_S3i C dX6_isSheet_6 kyX6_isIn lX6_49 ksX6_isIn rfl rfl (ctX6_isIn ((a1).toInt64) (0 : Int64) (3 : Int64) h _ rfl) ?_
  subst hF
  exact aw_zret C E (aw_nz (bX6_isIn ((a1).toInt64) (0 : Int64) (3 : Int64))) dX6_isSheet_9 rfl rfl (bw_ret rfl)
theorem bX6_isSheet (a1 : Int32) : FX6_isSheet a1 = 0 ∨ FX6_isSheet a1 = 1 := by
  unfold FX6_isSheet
  repeat' split
  all_goals first | exact Or.inl rfl | exact Or.inr rfl | exact bX6_isIn _ _ _
def FX6_itemOf (a1 : Int32) (a2 : Int32) (h : aw_H) : Option (Int64) :=
  (if aw_inb (((40 : Int32) * a1) + a2) 160 = true then some (h.2 76 ((((40 : Int32) * a1) + a2)).toNatClampNeg) else none)
set_option maxRecDepth 100000 in
set_option maxHeartbeats 4000000 in
theorem ctX6_itemOf (a1 : Int32) (a2 : Int32) (h : aw_H) (y : Int64) (hF : FX6_itemOf a1 a2 h = some y) : Ct 0 0 0 yX6_itemOf cX6_itemOf 3 (some .long) [.ref 71, .int a1, .int a2] wL wR h (aw_D (some (.long y)) h) := by
  refine Ct.of (ls0 := [.ref 71, .int a1, .int a2]) (by decide +kernel) rfl rfl (fun X C E hnm => ?_)
  have C : aw_C X RX6 cX6_itemOf 3 0 0 0 := C
  unfold FX6_itemOf at hF
  refine aw_aload_0 C dX6_itemOf_0 ?_
  refine aw_getR C dX6_itemOf_1 fX6_24 gX6_8 rfl rfl ?_
  refine aw_bipush C dX6_itemOf_4 lb_40 ?_
  refine aw_iload_1 C dX6_itemOf_6 ?_
  refine aw_imul C dX6_itemOf_7 ?_
  refine aw_iload_2 C dX6_itemOf_8 ?_
  refine aw_iadd C dX6_itemOf_9 ?_
  obtain ⟨s1, hF⟩ := bw_side hF
  refine aw_lald C dX6_itemOf_10 rfl (aw_ix s1) ?_
  obtain rfl := Option.some.inj hF
  exact aw_lret C E dX6_itemOf_11 rfl rfl (bw_ret rfl)
def BX6_firstOther_2 (n : Nat) (a1 : Int32) (a2 : Int32) (h : aw_H) (u2 : Int32) : Option (Int32 ⊕ Int32) :=
  (if aw_inb a1 4 = true then (if (h.1 75 (a1).toNatClampNeg) ≤ u2 then some (Sum.inr (-1 : Int32)) else ((FX6_sumAt n (a2 + u2) h).bind (fun q2 => ((FX6_itemOf a1 u2 h).bind (fun q4 => (if (lg_cmp q2 q4) = 0 then some (Sum.inl (u2 + (1 : Int32))) else some (Sum.inr u2))))))) else none)
def FX6_firstOther (n : Nat) (a1 : Int32) (a2 : Int32) (h : aw_H) : Option (Int32) :=
  aw_loop (BX6_firstOther_2 n a1 a2 h) n (0 : Int32)
set_option maxRecDepth 100000 in
set_option maxHeartbeats 4000000 in
theorem ctX6_firstOther (n : Nat) (a1 : Int32) (a2 : Int32) (h : aw_H) (y : Int32) (hF : FX6_firstOther n a1 a2 h = some y) : Ct 7 0 0 yX6_firstOther cX6_firstOther 4 (some .int) [.ref 71, .int a1, .int a2] wL wR h (aw_D (some (.int y)) h) := by
  refine Ct.of (ls0 := [.ref 71, .int a1, .int a2, .retAddr 0]) (by decide +kernel) rfl rfl (fun X C E hnm => ?_)
  have C : aw_C X RX6 cX6_firstOther 4 7 0 0 := C
  unfold FX6_firstOther at hF
  refine aw_iconst C dX6_firstOther_0 li_0 ?_
  refine aw_istore_3 C dX6_firstOther_1 rfl rfl ?_
  refine aw_loop_rule (fun u2 : Int32 => AW X 4 2 [.ref 71, .int a1, .int a2, .int u2] [] wL wR h 0 0) (fun q => q = y) (fun u2 y2 hF hK => ?_) n (0 : Int32) _ hF rfl
  unfold BX6_firstOther_2 at hF
  refine aw_iload_3 C dX6_firstOther_2 ?_
  refine aw_aload_0 C dX6_firstOther_3 ?_
  refine aw_getR C dX6_firstOther_4 fX6_21 gX6_7 rfl rfl ?_
  refine aw_iload_1 C dX6_firstOther_7 ?_
  obtain ⟨s1, hF⟩ := bw_side hF
  refine aw_iald C dX6_firstOther_8 rfl (aw_ix s1) ?_
  refine bw_icmp_ge (tgt := 37) C dX6_firstOther_9 (by decide) hF (fun hF => ?_) (fun hF => ?_)
  · refine aw_iconst C dX6_firstOther_37 li_m1 ?_
    obtain rfl := Option.some.inj hF
    have hK : _ = y := hK
    subst hK
    exact aw_iret C E dX6_firstOther_38 rfl rfl (bw_ret rfl)
  · refine aw_aload_0 C dX6_firstOther_12 ?_
    refine aw_iload_2 C dX6_firstOther_13 ?_
    refine aw_iload_3 C dX6_firstOther_14 ?_
    refine aw_iadd C dX6_firstOther_15 ?_
    obtain ⟨q2, e3, hF⟩ := bw_bind hF
    refine bw_V1l C dX6_firstOther_16 kyX6_sumAt lX6_158 kiX6_sumAt kvX6_sumAt (aw_rv C rfl rfl) rfl rfl (ctX6_sumAt n (a2 + u2) h q2 e3) ?_
    refine aw_aload_0 C dX6_firstOther_19 ?_
    refine aw_iload_1 C dX6_firstOther_20 ?_
    refine aw_iload_3 C dX6_firstOther_21 ?_
    obtain ⟨q4, e5, hF⟩ := bw_bind hF
    refine bw_V2l C dX6_firstOther_22 kyX6_itemOf lX6_186 kiX6_itemOf kvX6_itemOf (aw_rv C rfl rfl) rfl rfl (ctX6_itemOf a1 u2 h q4 e5) ?_
    refine aw_lcmp C dX6_firstOther_25 ?_
    refine bw_if_eq (tgt := 31) C dX6_firstOther_26 (by decide) hF (fun hF => ?_) (fun hF => ?_)
    · refine aw_iinc_3 C dX6_firstOther_31 li_1 rfl rfl ?_
      refine aw_goto (tgt := 2) C dX6_firstOther_34 (by decide) ?_
      cases hF
      exact hK
    · refine aw_iload_3 C dX6_firstOther_29 ?_
      obtain rfl := Option.some.inj hF
      have hK : _ = y := hK
      subst hK
      exact aw_iret C E dX6_firstOther_30 rfl rfl (bw_ret rfl)
def BX6_wrongBy_30 (n : Nat) (a1 : Int32) (a2 : Int32) (a3 : Int32) (a4 : Int32) (u3 : (Int32 × aw_H)) (q1 : Int32) (u30 : (Int32 × Int32 × aw_H)) : Option ((Int32 × Int32 × aw_H) ⊕ ((Int32 × aw_H) ⊕ (Int32 × aw_H))) :=
  (if a4 ≤ u30.2.1 then ((FX6_lays u3.1 a3 q1 u30.2.2).bind (fun q3 => (if u30.1 = (-1 : Int32) then some (Sum.inr (Sum.inl ((u3.1 + (1 : Int32)), q3))) else some (Sum.inr (Sum.inr (((a4 * u3.1) + u30.1), q3)))))) else (if u30.1 = (-1 : Int32) then ((FX6_lays u3.1 a3 u30.2.1 u30.2.2).bind (fun q7 => ((FX6_firstOther n a1 a2 q7).bind (fun q9 => (if q9 = (-1 : Int32) then some (Sum.inl (u30.2.1, (u30.2.1 + (1 : Int32)), q7)) else some (Sum.inl ((-1 : Int32), (u30.2.1 + (1 : Int32)), q7))))))) else ((FX6_lays u3.1 a3 q1 u30.2.2).bind (fun q5 => (if u30.1 = (-1 : Int32) then some (Sum.inr (Sum.inl ((u3.1 + (1 : Int32)), q5))) else some (Sum.inr (Sum.inr (((a4 * u3.1) + u30.1), q5))))))))
def BX6_wrongBy_3 (n : Nat) (a1 : Int32) (a2 : Int32) (a3 : Int32) (a4 : Int32) (u3 : (Int32 × aw_H)) : Option ((Int32 × aw_H) ⊕ (Int32 × aw_H)) :=
  (if (u3.2.1 72 66) ≤ u3.1 then some (Sum.inr ((-1 : Int32), u3.2)) else ((FX6_at u3.1 a3 u3.2).bind (fun q1 => aw_loop (BX6_wrongBy_30 n a1 a2 a3 a4 u3 q1) n ((-1 : Int32), (0 : Int32), u3.2))))
def FX6_wrongBy (n : Nat) (a1 : Int32) (a2 : Int32) (a3 : Int32) (a4 : Int32) (h : aw_H) : Option (Int32 × aw_H) :=
  aw_loop (BX6_wrongBy_3 n a1 a2 a3 a4) n ((0 : Int32), h)
set_option maxRecDepth 100000 in
set_option maxHeartbeats 4000000 in
theorem ctX6_wrongBy (n : Nat) (a1 : Int32) (a2 : Int32) (a3 : Int32) (a4 : Int32) (h : aw_H) (y : Int32 × aw_H) (hF : FX6_wrongBy n a1 a2 a3 a4 h = some y) : Ct 8 0 0 yX6_wrongBy cX6_wrongBy 9 (some .int) [.ref 71, .int a1, .int a2, .int a3, .int a4] wL wR h (aw_D (some (.int y.1)) y.2) := by
  refine Ct.of (ls0 := [.ref 71, .int a1, .int a2, .int a3, .int a4, .retAddr 0, .retAddr 0, .retAddr 0, .retAddr 0]) (by decide +kernel) rfl rfl (fun X C E hnm => ?_)
  have C : aw_C X RX6 cX6_wrongBy 9 8 0 0 := C
  unfold FX6_wrongBy at hF
  refine aw_iconst C dX6_wrongBy_0 li_0 ?_
  refine aw_istore_5 C dX6_wrongBy_1 rfl rfl ?_
  refine aw_loop_rule (fun u3 : (Int32 × aw_H) => AW X 9 3 [.ref 71, .int a1, .int a2, .int a3, .int a4, .int u3.1, .retAddr 0, .retAddr 0, .retAddr 0] [] wL wR u3.2 0 0) (fun q => q = y) (fun u3 y3 hF hK => ?_) n ((0 : Int32), h) _ hF rfl
  unfold BX6_wrongBy_3 at hF
  refine aw_iload_5 C dX6_wrongBy_3 ?_
  refine aw_aload_0 C dX6_wrongBy_5 ?_
  refine aw_getR C dX6_wrongBy_6 fX6_11 gX6_0 rfl rfl ?_
  refine aw_bipush C dX6_wrongBy_9 lb_66 ?_
  refine aw_iald C dX6_wrongBy_11 rfl (aw_ixk (k := 66) (n := 69) rfl rfl) ?_
  refine bw_icmp_ge (tgt := 106) C dX6_wrongBy_12 (by decide) hF (fun hF => ?_) (fun hF => ?_)
  · refine aw_iconst C dX6_wrongBy_106 li_m1 ?_
    obtain rfl := Option.some.inj hF
    have hK : _ = y := hK
    subst hK
    exact aw_iret C E dX6_wrongBy_107 rfl rfl (bw_ret rfl)
  · refine aw_aload_0 C dX6_wrongBy_15 ?_
    refine aw_iload_5 C dX6_wrongBy_16 ?_
    refine aw_iload_3 C dX6_wrongBy_18 ?_
    obtain ⟨q1, e2, hF⟩ := bw_bind hF
    refine bw_V2i C dX6_wrongBy_19 kyX6_at lX6_77 kiX6_at kvX6_at (aw_rv C rfl rfl) rfl rfl (ctX6_at u3.1 a3 u3.2 q1 e2) ?_
    refine aw_istore_6 C dX6_wrongBy_22 rfl rfl ?_
    refine aw_iconst C dX6_wrongBy_24 li_m1 ?_
    refine aw_istore_7 C dX6_wrongBy_25 rfl rfl ?_
    refine aw_iconst C dX6_wrongBy_27 li_0 ?_
    refine aw_istore_8 C dX6_wrongBy_28 rfl rfl ?_
    refine aw_loop_rule (fun u30 : (Int32 × Int32 × aw_H) => AW X 9 30 [.ref 71, .int a1, .int a2, .int a3, .int a4, .int u3.1, .int q1, .int u30.1, .int u30.2.1] [] wL wR u30.2.2 0 0) _ (fun u30 y30 hF hK => ?_) n ((-1 : Int32), (0 : Int32), u3.2) _ hF hK
    unfold BX6_wrongBy_30 at hF
    refine aw_iload_8 C dX6_wrongBy_30 ?_
    refine aw_iload_4 C dX6_wrongBy_32 ?_
    refine bw_icmp_ge (tgt := 76) C dX6_wrongBy_34 (by decide) hF (fun hF => ?_) (fun hF => ?_)
    · refine aw_aload_0 C dX6_wrongBy_76 ?_
      refine aw_iload_5 C dX6_wrongBy_77 ?_
      refine aw_iload_3 C dX6_wrongBy_79 ?_
      refine aw_iload_6 C dX6_wrongBy_80 ?_
      obtain ⟨q3, e4, hF⟩ := bw_bind hF
      refine bw_V3v C dX6_wrongBy_82 kyX6_lays lX6_65 kiX6_lays kvX6_lays (aw_rv C rfl rfl) rfl rfl (ctX6_lays u3.1 a3 q1 u30.2.2 q3 e4) ?_
      refine aw_iload_7 C dX6_wrongBy_85 ?_
      refine aw_iconst C dX6_wrongBy_87 li_m1 ?_
      refine bw_icmp_eq (tgt := 100) C dX6_wrongBy_88 (by decide) hF (fun hF => ?_) (fun hF => ?_)
      · refine aw_iinc_5 C dX6_wrongBy_100 li_1 rfl rfl ?_
        refine aw_goto (tgt := 3) C dX6_wrongBy_103 (by decide) ?_
        cases hF
        exact aw_weak (show aw_le [.ref 71, .int a1, .int a2, .int a3, .int a4, .int (u3.1 + (1 : Int32)), .retAddr 0, .retAddr 0, .retAddr 0] [.ref 71, .int a1, .int a2, .int a3, .int a4, .int (u3.1 + (1 : Int32)), .int q1, .int u30.1, .int u30.2.1] from ⟨Or.inr rfl, Or.inr rfl, Or.inr rfl, Or.inr rfl, Or.inr rfl, Or.inr rfl, Or.inl rfl, Or.inl rfl, Or.inl rfl, trivial⟩) hK
      · refine aw_iload_4 C dX6_wrongBy_91 ?_
        refine aw_iload_5 C dX6_wrongBy_93 ?_
        refine aw_imul C dX6_wrongBy_95 ?_
        refine aw_iload_7 C dX6_wrongBy_96 ?_
        refine aw_iadd C dX6_wrongBy_98 ?_
        obtain rfl := Option.some.inj hF
        have hK : _ = y := hK
        subst hK
        exact aw_iret C E dX6_wrongBy_99 rfl rfl (bw_ret rfl)
    · refine aw_iload_7 C dX6_wrongBy_37 ?_
      refine aw_iconst C dX6_wrongBy_39 li_m1 ?_
      refine bw_icmp_ne (tgt := 76) C dX6_wrongBy_40 (by decide) hF (fun hF => ?_) (fun hF => ?_)
      · refine aw_aload_0 C dX6_wrongBy_76 ?_
        refine aw_iload_5 C dX6_wrongBy_77 ?_
        refine aw_iload_3 C dX6_wrongBy_79 ?_
        refine aw_iload_6 C dX6_wrongBy_80 ?_
        obtain ⟨q5, e6, hF⟩ := bw_bind hF
        refine bw_V3v C dX6_wrongBy_82 kyX6_lays lX6_65 kiX6_lays kvX6_lays (aw_rv C rfl rfl) rfl rfl (ctX6_lays u3.1 a3 q1 u30.2.2 q5 e6) ?_
        refine aw_iload_7 C dX6_wrongBy_85 ?_
        refine aw_iconst C dX6_wrongBy_87 li_m1 ?_
        refine bw_icmp_eq (tgt := 100) C dX6_wrongBy_88 (by decide) hF (fun hF => ?_) (fun hF => ?_)
        · refine aw_iinc_5 C dX6_wrongBy_100 li_1 rfl rfl ?_
          refine aw_goto (tgt := 3) C dX6_wrongBy_103 (by decide) ?_
          cases hF
          exact aw_weak (show aw_le [.ref 71, .int a1, .int a2, .int a3, .int a4, .int (u3.1 + (1 : Int32)), .retAddr 0, .retAddr 0, .retAddr 0] [.ref 71, .int a1, .int a2, .int a3, .int a4, .int (u3.1 + (1 : Int32)), .int q1, .int u30.1, .int u30.2.1] from ⟨Or.inr rfl, Or.inr rfl, Or.inr rfl, Or.inr rfl, Or.inr rfl, Or.inr rfl, Or.inl rfl, Or.inl rfl, Or.inl rfl, trivial⟩) hK
        · refine aw_iload_4 C dX6_wrongBy_91 ?_
          refine aw_iload_5 C dX6_wrongBy_93 ?_
          refine aw_imul C dX6_wrongBy_95 ?_
          refine aw_iload_7 C dX6_wrongBy_96 ?_
          refine aw_iadd C dX6_wrongBy_98 ?_
          obtain rfl := Option.some.inj hF
          have hK : _ = y := hK
          subst hK
          exact aw_iret C E dX6_wrongBy_99 rfl rfl (bw_ret rfl)
      · refine aw_aload_0 C dX6_wrongBy_43 ?_
        refine aw_iload_5 C dX6_wrongBy_44 ?_
        refine aw_iload_3 C dX6_wrongBy_46 ?_
        refine aw_iload_8 C dX6_wrongBy_47 ?_
        obtain ⟨q7, e8, hF⟩ := bw_bind hF
        refine bw_V3v C dX6_wrongBy_49 kyX6_lays lX6_65 kiX6_lays kvX6_lays (aw_rv C rfl rfl) rfl rfl (ctX6_lays u3.1 a3 u30.2.1 u30.2.2 q7 e8) ?_
        refine aw_aload_0 C dX6_wrongBy_52 ?_
        refine aw_iload_1 C dX6_wrongBy_53 ?_
        refine aw_iload_2 C dX6_wrongBy_54 ?_
        obtain ⟨q9, e10, hF⟩ := bw_bind hF
        refine bw_V2i C dX6_wrongBy_55 kyX6_firstOther lX6_189 kiX6_firstOther kvX6_firstOther (aw_rv C rfl rfl) rfl rfl (ctX6_firstOther n a1 a2 q7 q9 e10) ?_
        refine aw_iconst C dX6_wrongBy_58 li_m1 ?_
        refine bw_icmp_ne (tgt := 67) C dX6_wrongBy_59 (by decide) hF (fun hF => ?_) (fun hF => ?_)
        · refine aw_iconst C dX6_wrongBy_67 li_m1 ?_
          refine aw_istore_7 C dX6_wrongBy_68 rfl rfl ?_
          refine aw_iinc_8 C dX6_wrongBy_70 li_1 rfl rfl ?_
          refine aw_goto (tgt := 30) C dX6_wrongBy_73 (by decide) ?_
          cases hF
          exact hK
        · refine aw_iload_8 C dX6_wrongBy_62 ?_
          refine aw_goto (tgt := 68) C dX6_wrongBy_64 (by decide) ?_
          refine aw_istore_7 C dX6_wrongBy_68 rfl rfl ?_
          refine aw_iinc_8 C dX6_wrongBy_70 li_1 rfl rfl ?_
          refine aw_goto (tgt := 30) C dX6_wrongBy_73 (by decide) ?_
          cases hF
          exact hK
def FX6_tells (n : Nat) (a1 : Int32) (a2 : Int32) (a3 : Int32) (h : aw_H) : Option (Int32 × aw_H) :=
  (if (FX6_isSheet a1) = 0 then some ((-2 : Int32), h) else (if (FX6_isTick a2) = 0 then some ((-2 : Int32), h) else (if (FX6_isIn ((a3).toInt64) (0 : Int64) (3 : Int64)) = 0 then some ((-2 : Int32), h) else (if aw_inb a1 4 = true then (if (h.1 74 (a1).toNatClampNeg) = (-1 : Int32) then some ((-11 : Int32), h) else (if aw_inb a1 4 = true then (if (h.1 75 (a1).toNatClampNeg) ≤ (8 : Int32) then (if a3 = 0 then ((FX6_firstOther n a1 a2 h).bind (fun q9 => some (q9, h))) else (if a3 = (1 : Int32) then ((FX6_wrongBy n a1 a2 (3 : Int32) (1024 : Int32) h).bind (fun q7 => some (q7.1, q7.2))) else (if a3 = (2 : Int32) then ((FX6_wrongBy n a1 a2 (2 : Int32) (1000 : Int32) h).bind (fun q5 => some (q5.1, q5.2))) else ((FX6_wrongBy n a1 a2 (0 : Int32) (6 : Int32) h).bind (fun q3 => some (q3.1, q3.2)))))) else some ((-2 : Int32), h)) else none)) else none))))
set_option maxRecDepth 100000 in
set_option maxHeartbeats 4000000 in
theorem ctX6_tells (n : Nat) (a1 : Int32) (a2 : Int32) (a3 : Int32) (h : aw_H) (y : Int32 × aw_H) (hF : FX6_tells n a1 a2 a3 h = some y) : Ct 9 0 0 yX6_tells cX6_tells 4 (some .int) [.ref 71, .int a1, .int a2, .int a3] wL wR h (aw_D (some (.int y.1)) y.2) := by
  refine Ct.of (ls0 := [.ref 71, .int a1, .int a2, .int a3]) (by decide +kernel) rfl rfl (fun X C E hnm => ?_)
  have C : aw_C X RX6 cX6_tells 4 9 0 0 := C
  unfold FX6_tells at hF
  refine aw_iload_1 C dX6_tells_0 ?_
  refine bw_S1i C dX6_tells_1 kyX6_isSheet lX6_192 ksX6_isSheet rfl rfl (ctX6_isSheet a1 h _ rfl) ?_
  refine bw_if_eq (tgt := 26) C dX6_tells_4 (by decide) hF (fun hF => ?_) (fun hF => ?_)
  · refine aw_bipush C dX6_tells_26 lb_m2 ?_
    obtain rfl := Option.some.inj hF
    exact aw_iret C E dX6_tells_28 rfl rfl (bw_ret rfl)
  · refine aw_iload_2 C dX6_tells_7 ?_
    refine bw_S1i C dX6_tells_8 kyX6_isTick lX6_161 ksX6_isTick rfl rfl (ctX6_isTick a2 h _ rfl) ?_
    refine bw_if_eq (tgt := 26) C dX6_tells_11 (by decide) hF (fun hF => ?_) (fun hF => ?_)
    · refine aw_bipush C dX6_tells_26 lb_m2 ?_
      obtain rfl := Option.some.inj hF
      exact aw_iret C E dX6_tells_28 rfl rfl (bw_ret rfl)
    · refine aw_iload_3 C dX6_tells_14 ?_
      refine aw_i2l C dX6_tells_15 ?_
      refine aw_lconst C dX6_tells_16 ll_0 ?_
      refine aw_ldc2 C dX6_tells_17 nX6_104 ?_
      refine bw_S3i C dX6_tells_20 kyX6_isIn lX6_49 ksX6_isIn rfl rfl (ctX6_isIn ((a3).toInt64) (0 : Int64) (3 : Int64) h _ rfl) ?_
      refine bw_if_ne (tgt := 29) C dX6_tells_23 (by decide) hF (fun hF => ?_) (fun hF => ?_)
      · refine aw_aload_0 C dX6_tells_29 ?_
        refine aw_getR C dX6_tells_30 fX6_18 gX6_6 rfl rfl ?_
        refine aw_iload_1 C dX6_tells_33 ?_
        obtain ⟨s1, hF⟩ := bw_side hF
        refine aw_iald C dX6_tells_34 rfl (aw_ix s1) ?_
        refine aw_iconst C dX6_tells_35 li_m1 ?_
        refine bw_icmp_ne (tgt := 42) C dX6_tells_36 (by decide) hF (fun hF => ?_) (fun hF => ?_)
        · refine aw_aload_0 C dX6_tells_42 ?_
          refine aw_getR C dX6_tells_43 fX6_21 gX6_7 rfl rfl ?_
          refine aw_iload_1 C dX6_tells_46 ?_
          obtain ⟨s2, hF⟩ := bw_side hF
          refine aw_iald C dX6_tells_47 rfl (aw_ix s2) ?_
          refine aw_bipush C dX6_tells_48 lb_8 ?_
          refine bw_icmp_le (tgt := 56) C dX6_tells_50 (by decide) hF (fun hF => ?_) (fun hF => ?_)
          · refine aw_iload_3 C dX6_tells_56 ?_
            refine bw_if_ne (tgt := 67) C dX6_tells_57 (by decide) hF (fun hF => ?_) (fun hF => ?_)
            · refine aw_iload_3 C dX6_tells_67 ?_
              refine aw_iconst C dX6_tells_68 li_1 ?_
              refine bw_icmp_ne (tgt := 85) C dX6_tells_69 (by decide) hF (fun hF => ?_) (fun hF => ?_)
              · refine aw_iload_3 C dX6_tells_85 ?_
                refine aw_iconst C dX6_tells_86 li_2 ?_
                refine bw_icmp_ne (tgt := 103) C dX6_tells_87 (by decide) hF (fun hF => ?_) (fun hF => ?_)
                · refine aw_aload_0 C dX6_tells_103 ?_
                  refine aw_iload_1 C dX6_tells_104 ?_
                  refine aw_iload_2 C dX6_tells_105 ?_
                  refine aw_iconst C dX6_tells_106 li_0 ?_
                  refine aw_bipush C dX6_tells_107 lb_6 ?_
                  obtain ⟨q3, e4, hF⟩ := bw_bind hF
                  refine bw_V4i C dX6_tells_109 kyX6_wrongBy lX6_195 kiX6_wrongBy kvX6_wrongBy (aw_rv C rfl rfl) rfl rfl (ctX6_wrongBy n a1 a2 (0 : Int32) (6 : Int32) h q3 e4) ?_
                  obtain rfl := Option.some.inj hF
                  exact aw_iret C E dX6_tells_112 rfl rfl (bw_ret rfl)
                · refine aw_aload_0 C dX6_tells_90 ?_
                  refine aw_iload_1 C dX6_tells_91 ?_
                  refine aw_iload_2 C dX6_tells_92 ?_
                  refine aw_iconst C dX6_tells_93 li_2 ?_
                  refine aw_sipush C dX6_tells_94 ls_1000 ?_
                  obtain ⟨q5, e6, hF⟩ := bw_bind hF
                  refine bw_V4i C dX6_tells_97 kyX6_wrongBy lX6_195 kiX6_wrongBy kvX6_wrongBy (aw_rv C rfl rfl) rfl rfl (ctX6_wrongBy n a1 a2 (2 : Int32) (1000 : Int32) h q5 e6) ?_
                  refine aw_goto (tgt := 112) C dX6_tells_100 (by decide) ?_
                  obtain rfl := Option.some.inj hF
                  exact aw_iret C E dX6_tells_112 rfl rfl (bw_ret rfl)
              · refine aw_aload_0 C dX6_tells_72 ?_
                refine aw_iload_1 C dX6_tells_73 ?_
                refine aw_iload_2 C dX6_tells_74 ?_
                refine aw_iconst C dX6_tells_75 li_3 ?_
                refine aw_sipush C dX6_tells_76 ls_1024 ?_
                obtain ⟨q7, e8, hF⟩ := bw_bind hF
                refine bw_V4i C dX6_tells_79 kyX6_wrongBy lX6_195 kiX6_wrongBy kvX6_wrongBy (aw_rv C rfl rfl) rfl rfl (ctX6_wrongBy n a1 a2 (3 : Int32) (1024 : Int32) h q7 e8) ?_
                refine aw_goto (tgt := 112) C dX6_tells_82 (by decide) ?_
                obtain rfl := Option.some.inj hF
                exact aw_iret C E dX6_tells_112 rfl rfl (bw_ret rfl)
            · refine aw_aload_0 C dX6_tells_60 ?_
              refine aw_iload_1 C dX6_tells_61 ?_
              refine aw_iload_2 C dX6_tells_62 ?_
              obtain ⟨q9, e10, hF⟩ := bw_bind hF
              refine bw_V2i C dX6_tells_63 kyX6_firstOther lX6_189 kiX6_firstOther kvX6_firstOther (aw_rv C rfl rfl) rfl rfl (ctX6_firstOther n a1 a2 h q9 e10) ?_
              obtain rfl := Option.some.inj hF
              exact aw_iret C E dX6_tells_66 rfl rfl (bw_ret rfl)
          · refine aw_bipush C dX6_tells_53 lb_m2 ?_
            obtain rfl := Option.some.inj hF
            exact aw_iret C E dX6_tells_55 rfl rfl (bw_ret rfl)
        · refine aw_bipush C dX6_tells_39 lb_m11 ?_
          obtain rfl := Option.some.inj hF
          exact aw_iret C E dX6_tells_41 rfl rfl (bw_ret rfl)
      · refine aw_bipush C dX6_tells_26 lb_m2 ?_
        obtain rfl := Option.some.inj hF
        exact aw_iret C E dX6_tells_28 rfl rfl (bw_ret rfl)
def BX6_areHighs_24 (n : Nat) (a1 : Int32) (a2 : Int32) (a3 : Int32) (a4 : Int32) (h : aw_H) (u24 : (Int32 × Int32 × Int64 × Int32)) : Option ((Int32 × Int32 × Int64 × Int32) ⊕ Int32) :=
  (if (a3 + a4) ≤ u24.2.2.2 then (if aw_inb a1 4 = true then (if u24.1 = (h.1 75 (a1).toNatClampNeg) then some (Sum.inr (1 : Int32)) else some (Sum.inr (0 : Int32))) else none) else (if aw_inb a1 4 = true then (if (h.1 75 (a1).toNatClampNeg) ≤ u24.1 then (if aw_inb a1 4 = true then (if u24.1 = (h.1 75 (a1).toNatClampNeg) then some (Sum.inr (1 : Int32)) else some (Sum.inr (0 : Int32))) else none) else (if aw_inb ((u24.2.2.2 + (1 : Int32)) - a3) 201 = true then ((FX6_heightBy n a2 (u24.2.2.2 + (1 : Int32)) h).bind (fun q7 => (if 0 ≤ (lg_cmp ((h.2 77 (((u24.2.2.2 + (1 : Int32)) - a3)).toNatClampNeg) + q7) u24.2.2.1) then (if (lg_cmp ((h.2 77 (((u24.2.2.2 + (1 : Int32)) - a3)).toNatClampNeg) + q7) u24.2.2.1) ≤ 0 then (if 0 ≤ (lg_cmp ((h.2 77 (((u24.2.2.2 + (1 : Int32)) - a3)).toNatClampNeg) + q7) u24.2.2.1) then some (Sum.inl (u24.1, u24.2.1, ((h.2 77 (((u24.2.2.2 + (1 : Int32)) - a3)).toNatClampNeg) + q7), (u24.2.2.2 + (1 : Int32)))) else some (Sum.inl (u24.1, (-1 : Int32), ((h.2 77 (((u24.2.2.2 + (1 : Int32)) - a3)).toNatClampNeg) + q7), (u24.2.2.2 + (1 : Int32))))) else some (Sum.inl (u24.1, (1 : Int32), ((h.2 77 (((u24.2.2.2 + (1 : Int32)) - a3)).toNatClampNeg) + q7), (u24.2.2.2 + (1 : Int32))))) else (if u24.2.1 ≤ 0 then (if (lg_cmp ((h.2 77 (((u24.2.2.2 + (1 : Int32)) - a3)).toNatClampNeg) + q7) u24.2.2.1) ≤ 0 then (if 0 ≤ (lg_cmp ((h.2 77 (((u24.2.2.2 + (1 : Int32)) - a3)).toNatClampNeg) + q7) u24.2.2.1) then some (Sum.inl (u24.1, u24.2.1, ((h.2 77 (((u24.2.2.2 + (1 : Int32)) - a3)).toNatClampNeg) + q7), (u24.2.2.2 + (1 : Int32)))) else some (Sum.inl (u24.1, (-1 : Int32), ((h.2 77 (((u24.2.2.2 + (1 : Int32)) - a3)).toNatClampNeg) + q7), (u24.2.2.2 + (1 : Int32))))) else some (Sum.inl (u24.1, (1 : Int32), ((h.2 77 (((u24.2.2.2 + (1 : Int32)) - a3)).toNatClampNeg) + q7), (u24.2.2.2 + (1 : Int32))))) else ((FX6_itemOf a1 u24.1 h).bind (fun q9 => (if (lg_cmp q9 ((u24.2.2.2).toInt64)) = 0 then (if (lg_cmp ((h.2 77 (((u24.2.2.2 + (1 : Int32)) - a3)).toNatClampNeg) + q7) u24.2.2.1) ≤ 0 then (if 0 ≤ (lg_cmp ((h.2 77 (((u24.2.2.2 + (1 : Int32)) - a3)).toNatClampNeg) + q7) u24.2.2.1) then some (Sum.inl ((u24.1 + (1 : Int32)), u24.2.1, ((h.2 77 (((u24.2.2.2 + (1 : Int32)) - a3)).toNatClampNeg) + q7), (u24.2.2.2 + (1 : Int32)))) else some (Sum.inl ((u24.1 + (1 : Int32)), (-1 : Int32), ((h.2 77 (((u24.2.2.2 + (1 : Int32)) - a3)).toNatClampNeg) + q7), (u24.2.2.2 + (1 : Int32))))) else some (Sum.inl ((u24.1 + (1 : Int32)), (1 : Int32), ((h.2 77 (((u24.2.2.2 + (1 : Int32)) - a3)).toNatClampNeg) + q7), (u24.2.2.2 + (1 : Int32))))) else some (Sum.inr (0 : Int32))))))))) else none)) else none))
def FX6_areHighs (n : Nat) (a1 : Int32) (a2 : Int32) (a3 : Int32) (a4 : Int32) (h : aw_H) : Option (Int32) :=
  ((FX6_heightBy n a2 a3 h).bind (fun q1 => aw_loop (BX6_areHighs_24 n a1 a2 a3 a4 h) n ((0 : Int32), (0 : Int32), ((h.2 77 0) + q1), a3)))
set_option maxRecDepth 100000 in
set_option maxHeartbeats 4000000 in
theorem ctX6_areHighs (n : Nat) (a1 : Int32) (a2 : Int32) (a3 : Int32) (a4 : Int32) (h : aw_H) (y : Int32) (hF : FX6_areHighs n a1 a2 a3 a4 h = some y) : Ct 6 0 0 yX6_areHighs cX6_areHighs 12 (some .boolean) [.ref 71, .int a1, .int a2, .int a3, .int a4] wL wR h (aw_D (some (.int y)) h) := by
  refine Ct.of (ls0 := [.ref 71, .int a1, .int a2, .int a3, .int a4, .retAddr 0, .retAddr 0, .retAddr 0, .retAddr 0, .retAddr 0, .retAddr 0, .retAddr 0]) (by decide +kernel) rfl rfl (fun X C E hnm => ?_)
  have C : aw_C X RX6 cX6_areHighs 12 6 0 0 := C
  unfold FX6_areHighs at hF
  refine aw_iconst C dX6_areHighs_0 li_0 ?_
  refine aw_istore_5 C dX6_areHighs_1 rfl rfl ?_
  refine aw_iconst C dX6_areHighs_3 li_0 ?_
  refine aw_istore_6 C dX6_areHighs_4 rfl rfl ?_
  refine aw_aload_0 C dX6_areHighs_6 ?_
  refine aw_getR C dX6_areHighs_7 fX6_28 gX6_9 rfl rfl ?_
  refine aw_iconst C dX6_areHighs_10 li_0 ?_
  refine aw_lald C dX6_areHighs_11 rfl (aw_ixk (k := 0) (n := 201) rfl rfl) ?_
  refine aw_aload_0 C dX6_areHighs_12 ?_
  refine aw_iload_2 C dX6_areHighs_13 ?_
  refine aw_iload_3 C dX6_areHighs_14 ?_
  obtain ⟨q1, e2, hF⟩ := bw_bind hF
  refine bw_V2l C dX6_areHighs_15 kyX6_heightBy lX6_152 kiX6_heightBy kvX6_heightBy (aw_rv C rfl rfl) rfl rfl (ctX6_heightBy n a2 a3 h q1 e2) ?_
  refine aw_ladd C dX6_areHighs_18 ?_
  refine aw_lstore_7 C dX6_areHighs_19 rfl rfl ?_
  refine aw_iload_3 C dX6_areHighs_21 ?_
  refine aw_istore_9 C dX6_areHighs_22 rfl rfl ?_
  refine aw_loop_rule (fun u24 : (Int32 × Int32 × Int64 × Int32) => AW X 12 24 [.ref 71, .int a1, .int a2, .int a3, .int a4, .int u24.1, .int u24.2.1, .long u24.2.2.1, .retAddr 0, .int u24.2.2.2, .retAddr 0, .retAddr 0] [] wL wR h 0 0) (fun q => q = y) (fun u24 y24 hF hK => ?_) n ((0 : Int32), (0 : Int32), ((h.2 77 0) + q1), a3) _ hF rfl
  unfold BX6_areHighs_24 at hF
  refine aw_iload_9 C dX6_areHighs_24 ?_
  refine aw_iload_3 C dX6_areHighs_26 ?_
  refine aw_iload_4 C dX6_areHighs_27 ?_
  refine aw_iadd C dX6_areHighs_29 ?_
  refine bw_icmp_ge (tgt := 137) C dX6_areHighs_30 (by decide) hF (fun hF => ?_) (fun hF => ?_)
  · refine aw_iload_5 C dX6_areHighs_137 ?_
    refine aw_aload_0 C dX6_areHighs_139 ?_
    refine aw_getR C dX6_areHighs_140 fX6_21 gX6_7 rfl rfl ?_
    refine aw_iload_1 C dX6_areHighs_143 ?_
    obtain ⟨s3, hF⟩ := bw_side hF
    refine aw_iald C dX6_areHighs_144 rfl (aw_ix s3) ?_
    refine bw_icmp_ne (tgt := 152) C dX6_areHighs_145 (by decide) hF (fun hF => ?_) (fun hF => ?_)
    · refine aw_iconst C dX6_areHighs_152 li_0 ?_
      obtain rfl := Option.some.inj hF
      have hK : _ = y := hK
      subst hK
      exact aw_zret C E rfl dX6_areHighs_153 rfl rfl (bw_ret rfl)
    · refine aw_iconst C dX6_areHighs_148 li_1 ?_
      refine aw_goto (tgt := 153) C dX6_areHighs_149 (by decide) ?_
      obtain rfl := Option.some.inj hF
      have hK : _ = y := hK
      subst hK
      exact aw_zret C E rfl dX6_areHighs_153 rfl rfl (bw_ret rfl)
  · refine aw_iload_5 C dX6_areHighs_33 ?_
    refine aw_aload_0 C dX6_areHighs_35 ?_
    refine aw_getR C dX6_areHighs_36 fX6_21 gX6_7 rfl rfl ?_
    refine aw_iload_1 C dX6_areHighs_39 ?_
    obtain ⟨s4, hF⟩ := bw_side hF
    refine aw_iald C dX6_areHighs_40 rfl (aw_ix s4) ?_
    refine bw_icmp_ge (tgt := 137) C dX6_areHighs_41 (by decide) hF (fun hF => ?_) (fun hF => ?_)
    · refine aw_iload_5 C dX6_areHighs_137 ?_
      refine aw_aload_0 C dX6_areHighs_139 ?_
      refine aw_getR C dX6_areHighs_140 fX6_21 gX6_7 rfl rfl ?_
      refine aw_iload_1 C dX6_areHighs_143 ?_
      obtain ⟨s5, hF⟩ := bw_side hF
      refine aw_iald C dX6_areHighs_144 rfl (aw_ix s5) ?_
      refine bw_icmp_ne (tgt := 152) C dX6_areHighs_145 (by decide) hF (fun hF => ?_) (fun hF => ?_)
      · refine aw_iconst C dX6_areHighs_152 li_0 ?_
        obtain rfl := Option.some.inj hF
        have hK : _ = y := hK
        subst hK
        exact aw_zret C E rfl dX6_areHighs_153 rfl rfl (bw_ret rfl)
      · refine aw_iconst C dX6_areHighs_148 li_1 ?_
        refine aw_goto (tgt := 153) C dX6_areHighs_149 (by decide) ?_
        obtain rfl := Option.some.inj hF
        have hK : _ = y := hK
        subst hK
        exact aw_zret C E rfl dX6_areHighs_153 rfl rfl (bw_ret rfl)
    · refine aw_aload_0 C dX6_areHighs_44 ?_
      refine aw_getR C dX6_areHighs_45 fX6_28 gX6_9 rfl rfl ?_
      refine aw_iload_9 C dX6_areHighs_48 ?_
      refine aw_iconst C dX6_areHighs_50 li_1 ?_
      refine aw_iadd C dX6_areHighs_51 ?_
      refine aw_iload_3 C dX6_areHighs_52 ?_
      refine aw_isub C dX6_areHighs_53 ?_
      obtain ⟨s6, hF⟩ := bw_side hF
      refine aw_lald C dX6_areHighs_54 rfl (aw_ix s6) ?_
      refine aw_aload_0 C dX6_areHighs_55 ?_
      refine aw_iload_2 C dX6_areHighs_56 ?_
      refine aw_iload_9 C dX6_areHighs_57 ?_
      refine aw_iconst C dX6_areHighs_59 li_1 ?_
      refine aw_iadd C dX6_areHighs_60 ?_
      obtain ⟨q7, e8, hF⟩ := bw_bind hF
      refine bw_V2l C dX6_areHighs_61 kyX6_heightBy lX6_152 kiX6_heightBy kvX6_heightBy (aw_rv C rfl rfl) rfl rfl (ctX6_heightBy n a2 (u24.2.2.2 + (1 : Int32)) h q7 e8) ?_
      refine aw_ladd C dX6_areHighs_64 ?_
      refine aw_lstore_10 C dX6_areHighs_65 rfl rfl ?_
      refine aw_lload_10 C dX6_areHighs_67 ?_
      refine aw_lload_7 C dX6_areHighs_69 ?_
      refine aw_lcmp C dX6_areHighs_71 ?_
      refine bw_if_ge (tgt := 99) C dX6_areHighs_72 (by decide) hF (fun hF => ?_) (fun hF => ?_)
      · refine aw_lload_10 C dX6_areHighs_99 ?_
        refine aw_lload_7 C dX6_areHighs_101 ?_
        refine aw_lcmp C dX6_areHighs_103 ?_
        refine bw_if_le (tgt := 111) C dX6_areHighs_104 (by decide) hF (fun hF => ?_) (fun hF => ?_)
        · refine aw_lload_10 C dX6_areHighs_111 ?_
          refine aw_lload_7 C dX6_areHighs_113 ?_
          refine aw_lcmp C dX6_areHighs_115 ?_
          refine bw_if_ge (tgt := 123) C dX6_areHighs_116 (by decide) hF (fun hF => ?_) (fun hF => ?_)
          · refine aw_iload_6 C dX6_areHighs_123 ?_
            refine aw_istore_6 C dX6_areHighs_125 rfl rfl ?_
            refine aw_lload_10 C dX6_areHighs_127 ?_
            refine aw_lstore_7 C dX6_areHighs_129 rfl rfl ?_
            refine aw_iinc_9 C dX6_areHighs_131 li_1 rfl rfl ?_
            refine aw_goto (tgt := 24) C dX6_areHighs_134 (by decide) ?_
            cases hF
            exact aw_weak (show aw_le [.ref 71, .int a1, .int a2, .int a3, .int a4, .int u24.1, .int u24.2.1, .long ((h.2 77 (((u24.2.2.2 + (1 : Int32)) - a3)).toNatClampNeg) + q7), .retAddr 0, .int (u24.2.2.2 + (1 : Int32)), .retAddr 0, .retAddr 0] [.ref 71, .int a1, .int a2, .int a3, .int a4, .int u24.1, .int u24.2.1, .long ((h.2 77 (((u24.2.2.2 + (1 : Int32)) - a3)).toNatClampNeg) + q7), .retAddr 0, .int (u24.2.2.2 + (1 : Int32)), .long ((h.2 77 (((u24.2.2.2 + (1 : Int32)) - a3)).toNatClampNeg) + q7), .retAddr 0] from ⟨Or.inr rfl, Or.inr rfl, Or.inr rfl, Or.inr rfl, Or.inr rfl, Or.inr rfl, Or.inr rfl, Or.inr rfl, Or.inr rfl, Or.inr rfl, Or.inl rfl, Or.inr rfl, trivial⟩) hK
          · refine aw_iconst C dX6_areHighs_119 li_m1 ?_
            refine aw_goto (tgt := 125) C dX6_areHighs_120 (by decide) ?_
            refine aw_istore_6 C dX6_areHighs_125 rfl rfl ?_
            refine aw_lload_10 C dX6_areHighs_127 ?_
            refine aw_lstore_7 C dX6_areHighs_129 rfl rfl ?_
            refine aw_iinc_9 C dX6_areHighs_131 li_1 rfl rfl ?_
            refine aw_goto (tgt := 24) C dX6_areHighs_134 (by decide) ?_
            cases hF
            exact aw_weak (show aw_le [.ref 71, .int a1, .int a2, .int a3, .int a4, .int u24.1, .int (-1 : Int32), .long ((h.2 77 (((u24.2.2.2 + (1 : Int32)) - a3)).toNatClampNeg) + q7), .retAddr 0, .int (u24.2.2.2 + (1 : Int32)), .retAddr 0, .retAddr 0] [.ref 71, .int a1, .int a2, .int a3, .int a4, .int u24.1, .int (-1 : Int32), .long ((h.2 77 (((u24.2.2.2 + (1 : Int32)) - a3)).toNatClampNeg) + q7), .retAddr 0, .int (u24.2.2.2 + (1 : Int32)), .long ((h.2 77 (((u24.2.2.2 + (1 : Int32)) - a3)).toNatClampNeg) + q7), .retAddr 0] from ⟨Or.inr rfl, Or.inr rfl, Or.inr rfl, Or.inr rfl, Or.inr rfl, Or.inr rfl, Or.inr rfl, Or.inr rfl, Or.inr rfl, Or.inr rfl, Or.inl rfl, Or.inr rfl, trivial⟩) hK
        · refine aw_iconst C dX6_areHighs_107 li_1 ?_
          refine aw_goto (tgt := 125) C dX6_areHighs_108 (by decide) ?_
          refine aw_istore_6 C dX6_areHighs_125 rfl rfl ?_
          refine aw_lload_10 C dX6_areHighs_127 ?_
          refine aw_lstore_7 C dX6_areHighs_129 rfl rfl ?_
          refine aw_iinc_9 C dX6_areHighs_131 li_1 rfl rfl ?_
          refine aw_goto (tgt := 24) C dX6_areHighs_134 (by decide) ?_
          cases hF
          exact aw_weak (show aw_le [.ref 71, .int a1, .int a2, .int a3, .int a4, .int u24.1, .int (1 : Int32), .long ((h.2 77 (((u24.2.2.2 + (1 : Int32)) - a3)).toNatClampNeg) + q7), .retAddr 0, .int (u24.2.2.2 + (1 : Int32)), .retAddr 0, .retAddr 0] [.ref 71, .int a1, .int a2, .int a3, .int a4, .int u24.1, .int (1 : Int32), .long ((h.2 77 (((u24.2.2.2 + (1 : Int32)) - a3)).toNatClampNeg) + q7), .retAddr 0, .int (u24.2.2.2 + (1 : Int32)), .long ((h.2 77 (((u24.2.2.2 + (1 : Int32)) - a3)).toNatClampNeg) + q7), .retAddr 0] from ⟨Or.inr rfl, Or.inr rfl, Or.inr rfl, Or.inr rfl, Or.inr rfl, Or.inr rfl, Or.inr rfl, Or.inr rfl, Or.inr rfl, Or.inr rfl, Or.inl rfl, Or.inr rfl, trivial⟩) hK
      · refine aw_iload_6 C dX6_areHighs_75 ?_
        refine bw_if_le (tgt := 99) C dX6_areHighs_77 (by decide) hF (fun hF => ?_) (fun hF => ?_)
        · refine aw_lload_10 C dX6_areHighs_99 ?_
          refine aw_lload_7 C dX6_areHighs_101 ?_
          refine aw_lcmp C dX6_areHighs_103 ?_
          refine bw_if_le (tgt := 111) C dX6_areHighs_104 (by decide) hF (fun hF => ?_) (fun hF => ?_)
          · refine aw_lload_10 C dX6_areHighs_111 ?_
            refine aw_lload_7 C dX6_areHighs_113 ?_
            refine aw_lcmp C dX6_areHighs_115 ?_
            refine bw_if_ge (tgt := 123) C dX6_areHighs_116 (by decide) hF (fun hF => ?_) (fun hF => ?_)
            · refine aw_iload_6 C dX6_areHighs_123 ?_
              refine aw_istore_6 C dX6_areHighs_125 rfl rfl ?_
              refine aw_lload_10 C dX6_areHighs_127 ?_
              refine aw_lstore_7 C dX6_areHighs_129 rfl rfl ?_
              refine aw_iinc_9 C dX6_areHighs_131 li_1 rfl rfl ?_
              refine aw_goto (tgt := 24) C dX6_areHighs_134 (by decide) ?_
              cases hF
              exact aw_weak (show aw_le [.ref 71, .int a1, .int a2, .int a3, .int a4, .int u24.1, .int u24.2.1, .long ((h.2 77 (((u24.2.2.2 + (1 : Int32)) - a3)).toNatClampNeg) + q7), .retAddr 0, .int (u24.2.2.2 + (1 : Int32)), .retAddr 0, .retAddr 0] [.ref 71, .int a1, .int a2, .int a3, .int a4, .int u24.1, .int u24.2.1, .long ((h.2 77 (((u24.2.2.2 + (1 : Int32)) - a3)).toNatClampNeg) + q7), .retAddr 0, .int (u24.2.2.2 + (1 : Int32)), .long ((h.2 77 (((u24.2.2.2 + (1 : Int32)) - a3)).toNatClampNeg) + q7), .retAddr 0] from ⟨Or.inr rfl, Or.inr rfl, Or.inr rfl, Or.inr rfl, Or.inr rfl, Or.inr rfl, Or.inr rfl, Or.inr rfl, Or.inr rfl, Or.inr rfl, Or.inl rfl, Or.inr rfl, trivial⟩) hK
            · refine aw_iconst C dX6_areHighs_119 li_m1 ?_
              refine aw_goto (tgt := 125) C dX6_areHighs_120 (by decide) ?_
              refine aw_istore_6 C dX6_areHighs_125 rfl rfl ?_
              refine aw_lload_10 C dX6_areHighs_127 ?_
              refine aw_lstore_7 C dX6_areHighs_129 rfl rfl ?_
              refine aw_iinc_9 C dX6_areHighs_131 li_1 rfl rfl ?_
              refine aw_goto (tgt := 24) C dX6_areHighs_134 (by decide) ?_
              cases hF
              exact aw_weak (show aw_le [.ref 71, .int a1, .int a2, .int a3, .int a4, .int u24.1, .int (-1 : Int32), .long ((h.2 77 (((u24.2.2.2 + (1 : Int32)) - a3)).toNatClampNeg) + q7), .retAddr 0, .int (u24.2.2.2 + (1 : Int32)), .retAddr 0, .retAddr 0] [.ref 71, .int a1, .int a2, .int a3, .int a4, .int u24.1, .int (-1 : Int32), .long ((h.2 77 (((u24.2.2.2 + (1 : Int32)) - a3)).toNatClampNeg) + q7), .retAddr 0, .int (u24.2.2.2 + (1 : Int32)), .long ((h.2 77 (((u24.2.2.2 + (1 : Int32)) - a3)).toNatClampNeg) + q7), .retAddr 0] from ⟨Or.inr rfl, Or.inr rfl, Or.inr rfl, Or.inr rfl, Or.inr rfl, Or.inr rfl, Or.inr rfl, Or.inr rfl, Or.inr rfl, Or.inr rfl, Or.inl rfl, Or.inr rfl, trivial⟩) hK
          · refine aw_iconst C dX6_areHighs_107 li_1 ?_
            refine aw_goto (tgt := 125) C dX6_areHighs_108 (by decide) ?_
            refine aw_istore_6 C dX6_areHighs_125 rfl rfl ?_
            refine aw_lload_10 C dX6_areHighs_127 ?_
            refine aw_lstore_7 C dX6_areHighs_129 rfl rfl ?_
            refine aw_iinc_9 C dX6_areHighs_131 li_1 rfl rfl ?_
            refine aw_goto (tgt := 24) C dX6_areHighs_134 (by decide) ?_
            cases hF
            exact aw_weak (show aw_le [.ref 71, .int a1, .int a2, .int a3, .int a4, .int u24.1, .int (1 : Int32), .long ((h.2 77 (((u24.2.2.2 + (1 : Int32)) - a3)).toNatClampNeg) + q7), .retAddr 0, .int (u24.2.2.2 + (1 : Int32)), .retAddr 0, .retAddr 0] [.ref 71, .int a1, .int a2, .int a3, .int a4, .int u24.1, .int (1 : Int32), .long ((h.2 77 (((u24.2.2.2 + (1 : Int32)) - a3)).toNatClampNeg) + q7), .retAddr 0, .int (u24.2.2.2 + (1 : Int32)), .long ((h.2 77 (((u24.2.2.2 + (1 : Int32)) - a3)).toNatClampNeg) + q7), .retAddr 0] from ⟨Or.inr rfl, Or.inr rfl, Or.inr rfl, Or.inr rfl, Or.inr rfl, Or.inr rfl, Or.inr rfl, Or.inr rfl, Or.inr rfl, Or.inr rfl, Or.inl rfl, Or.inr rfl, trivial⟩) hK
        · refine aw_aload_0 C dX6_areHighs_80 ?_
          refine aw_iload_1 C dX6_areHighs_81 ?_
          refine aw_iload_5 C dX6_areHighs_82 ?_
          obtain ⟨q9, e10, hF⟩ := bw_bind hF
          refine bw_V2l C dX6_areHighs_84 kyX6_itemOf lX6_186 kiX6_itemOf kvX6_itemOf (aw_rv C rfl rfl) rfl rfl (ctX6_itemOf a1 u24.1 h q9 e10) ?_
          refine aw_iload_9 C dX6_areHighs_87 ?_
          refine aw_i2l C dX6_areHighs_89 ?_
          refine aw_lcmp C dX6_areHighs_90 ?_
          refine bw_if_eq (tgt := 96) C dX6_areHighs_91 (by decide) hF (fun hF => ?_) (fun hF => ?_)
          · refine aw_iinc_5 C dX6_areHighs_96 li_1 rfl rfl ?_
            refine aw_lload_10 C dX6_areHighs_99 ?_
            refine aw_lload_7 C dX6_areHighs_101 ?_
            refine aw_lcmp C dX6_areHighs_103 ?_
            refine bw_if_le (tgt := 111) C dX6_areHighs_104 (by decide) hF (fun hF => ?_) (fun hF => ?_)
            · refine aw_lload_10 C dX6_areHighs_111 ?_
              refine aw_lload_7 C dX6_areHighs_113 ?_
              refine aw_lcmp C dX6_areHighs_115 ?_
              refine bw_if_ge (tgt := 123) C dX6_areHighs_116 (by decide) hF (fun hF => ?_) (fun hF => ?_)
              · refine aw_iload_6 C dX6_areHighs_123 ?_
                refine aw_istore_6 C dX6_areHighs_125 rfl rfl ?_
                refine aw_lload_10 C dX6_areHighs_127 ?_
                refine aw_lstore_7 C dX6_areHighs_129 rfl rfl ?_
                refine aw_iinc_9 C dX6_areHighs_131 li_1 rfl rfl ?_
                refine aw_goto (tgt := 24) C dX6_areHighs_134 (by decide) ?_
                cases hF
                exact aw_weak (show aw_le [.ref 71, .int a1, .int a2, .int a3, .int a4, .int (u24.1 + (1 : Int32)), .int u24.2.1, .long ((h.2 77 (((u24.2.2.2 + (1 : Int32)) - a3)).toNatClampNeg) + q7), .retAddr 0, .int (u24.2.2.2 + (1 : Int32)), .retAddr 0, .retAddr 0] [.ref 71, .int a1, .int a2, .int a3, .int a4, .int (u24.1 + (1 : Int32)), .int u24.2.1, .long ((h.2 77 (((u24.2.2.2 + (1 : Int32)) - a3)).toNatClampNeg) + q7), .retAddr 0, .int (u24.2.2.2 + (1 : Int32)), .long ((h.2 77 (((u24.2.2.2 + (1 : Int32)) - a3)).toNatClampNeg) + q7), .retAddr 0] from ⟨Or.inr rfl, Or.inr rfl, Or.inr rfl, Or.inr rfl, Or.inr rfl, Or.inr rfl, Or.inr rfl, Or.inr rfl, Or.inr rfl, Or.inr rfl, Or.inl rfl, Or.inr rfl, trivial⟩) hK
              · refine aw_iconst C dX6_areHighs_119 li_m1 ?_
                refine aw_goto (tgt := 125) C dX6_areHighs_120 (by decide) ?_
                refine aw_istore_6 C dX6_areHighs_125 rfl rfl ?_
                refine aw_lload_10 C dX6_areHighs_127 ?_
                refine aw_lstore_7 C dX6_areHighs_129 rfl rfl ?_
                refine aw_iinc_9 C dX6_areHighs_131 li_1 rfl rfl ?_
                refine aw_goto (tgt := 24) C dX6_areHighs_134 (by decide) ?_
                cases hF
                exact aw_weak (show aw_le [.ref 71, .int a1, .int a2, .int a3, .int a4, .int (u24.1 + (1 : Int32)), .int (-1 : Int32), .long ((h.2 77 (((u24.2.2.2 + (1 : Int32)) - a3)).toNatClampNeg) + q7), .retAddr 0, .int (u24.2.2.2 + (1 : Int32)), .retAddr 0, .retAddr 0] [.ref 71, .int a1, .int a2, .int a3, .int a4, .int (u24.1 + (1 : Int32)), .int (-1 : Int32), .long ((h.2 77 (((u24.2.2.2 + (1 : Int32)) - a3)).toNatClampNeg) + q7), .retAddr 0, .int (u24.2.2.2 + (1 : Int32)), .long ((h.2 77 (((u24.2.2.2 + (1 : Int32)) - a3)).toNatClampNeg) + q7), .retAddr 0] from ⟨Or.inr rfl, Or.inr rfl, Or.inr rfl, Or.inr rfl, Or.inr rfl, Or.inr rfl, Or.inr rfl, Or.inr rfl, Or.inr rfl, Or.inr rfl, Or.inl rfl, Or.inr rfl, trivial⟩) hK
            · refine aw_iconst C dX6_areHighs_107 li_1 ?_
              refine aw_goto (tgt := 125) C dX6_areHighs_108 (by decide) ?_
              refine aw_istore_6 C dX6_areHighs_125 rfl rfl ?_
              refine aw_lload_10 C dX6_areHighs_127 ?_
              refine aw_lstore_7 C dX6_areHighs_129 rfl rfl ?_
              refine aw_iinc_9 C dX6_areHighs_131 li_1 rfl rfl ?_
              refine aw_goto (tgt := 24) C dX6_areHighs_134 (by decide) ?_
              cases hF
              exact aw_weak (show aw_le [.ref 71, .int a1, .int a2, .int a3, .int a4, .int (u24.1 + (1 : Int32)), .int (1 : Int32), .long ((h.2 77 (((u24.2.2.2 + (1 : Int32)) - a3)).toNatClampNeg) + q7), .retAddr 0, .int (u24.2.2.2 + (1 : Int32)), .retAddr 0, .retAddr 0] [.ref 71, .int a1, .int a2, .int a3, .int a4, .int (u24.1 + (1 : Int32)), .int (1 : Int32), .long ((h.2 77 (((u24.2.2.2 + (1 : Int32)) - a3)).toNatClampNeg) + q7), .retAddr 0, .int (u24.2.2.2 + (1 : Int32)), .long ((h.2 77 (((u24.2.2.2 + (1 : Int32)) - a3)).toNatClampNeg) + q7), .retAddr 0] from ⟨Or.inr rfl, Or.inr rfl, Or.inr rfl, Or.inr rfl, Or.inr rfl, Or.inr rfl, Or.inr rfl, Or.inr rfl, Or.inr rfl, Or.inr rfl, Or.inl rfl, Or.inr rfl, trivial⟩) hK
          · refine aw_iconst C dX6_areHighs_94 li_0 ?_
            obtain rfl := Option.some.inj hF
            have hK : _ = y := hK
            subst hK
            exact aw_zret C E rfl dX6_areHighs_95 rfl rfl (bw_ret rfl)
def BX6_refound_125 (n : Nat) (a1 : Int32) (a2 : Int32) (a3 : Int32) (a4 : Int32) (a5 : Int32) (q3 : Int32) (u125 : (Int32 × Int32 × Int32 × aw_H)) : Option ((Int32 × Int32 × Int32 × aw_H) ⊕ ((Int32 × aw_H) ⊕ (Int32 × aw_H))) :=
  (if u125.2.2.1 < 0 then ((FX6_lays a2 (3 : Int32) q3 u125.2.2.2).bind (fun q5 => (if a5 = 0 then some (Sum.inr (Sum.inr (u125.1, q5))) else some (Sum.inr (Sum.inr (u125.2.1, q5)))))) else ((FX6_lays a2 (3 : Int32) u125.2.2.1 u125.2.2.2).bind (fun q7 => ((FX6_areHighs n a1 a2 a3 a4 q7).bind (fun q9 => (if q9 = 0 then some (Sum.inl (u125.1, u125.2.1, (u125.2.2.1 + (-1 : Int32)), q7)) else some (Sum.inl ((u125.1 + (1 : Int32)), u125.2.2.1, (u125.2.2.1 + (-1 : Int32)), q7))))))))
def BX6_refound_68 (n : Nat) (a1 : Int32) (a2 : Int32) (a3 : Int32) (a4 : Int32) (a5 : Int32) (u68 : (Int32 × aw_H)) : Option ((Int32 × aw_H) ⊕ (Int32 × aw_H)) :=
  (if (a3 + a4) < u68.1 then ((FX6_at a2 (3 : Int32) u68.2).bind (fun q3 => aw_loop (BX6_refound_125 n a1 a2 a3 a4 a5 q3) n ((0 : Int32), (-1 : Int32), (1023 : Int32), u68.2))) else ((FX6_sumAt n u68.1 u68.2).bind (fun q11 => ((FX6_heightBy n a2 u68.1 u68.2).bind (fun q13 => (if aw_inb (u68.1 - a3) 201 = true then some (Sum.inl ((u68.1 + (1 : Int32)), (aw_sL u68.2 77 ((u68.1 - a3)).toNatClampNeg (q11 - q13)))) else none))))))
def FX6_refound (n : Nat) (a1 : Int32) (a2 : Int32) (a3 : Int32) (a4 : Int32) (a5 : Int32) (h : aw_H) : Option (Int32 × aw_H) :=
  (if (FX6_isSheet a1) = 0 then some ((-2 : Int32), h) else (if (FX6_isPart a2 h) = 0 then some ((-2 : Int32), h) else (if (FX6_areWaters a3 a4 (200 : Int32)) = 0 then some ((-2 : Int32), h) else (if (FX6_isLine a5) = 0 then some ((-2 : Int32), h) else (if aw_inb a1 4 = true then (if (h.1 74 (a1).toNatClampNeg) = (-1 : Int32) then some ((-11 : Int32), h) else (if aw_inb a1 4 = true then (if (h.1 75 (a1).toNatClampNeg) ≤ (8 : Int32) then aw_loop (BX6_refound_68 n a1 a2 a3 a4 a5) n (a3, h) else some ((-2 : Int32), h)) else none)) else none)))))
set_option maxRecDepth 100000 in
set_option maxHeartbeats 4000000 in
theorem ctX6_refound (n : Nat) (a1 : Int32) (a2 : Int32) (a3 : Int32) (a4 : Int32) (a5 : Int32) (h : aw_H) (y : Int32 × aw_H) (hF : FX6_refound n a1 a2 a3 a4 a5 h = some y) : Ct 7 0 0 yX6_refound cX6_refound 10 (some .int) [.ref 71, .int a1, .int a2, .int a3, .int a4, .int a5] wL wR h (aw_D (some (.int y.1)) y.2) := by
  refine Ct.of (ls0 := [.ref 71, .int a1, .int a2, .int a3, .int a4, .int a5, .retAddr 0, .retAddr 0, .retAddr 0, .retAddr 0]) (by decide +kernel) rfl rfl (fun X C E hnm => ?_)
  have C : aw_C X RX6 cX6_refound 10 7 0 0 := C
  unfold FX6_refound at hF
  refine aw_iload_1 C dX6_refound_0 ?_
  refine bw_S1i C dX6_refound_1 kyX6_isSheet lX6_192 ksX6_isSheet rfl rfl (ctX6_isSheet a1 h _ rfl) ?_
  refine bw_if_eq (tgt := 35) C dX6_refound_4 (by decide) hF (fun hF => ?_) (fun hF => ?_)
  · refine aw_bipush C dX6_refound_35 lb_m2 ?_
    obtain rfl := Option.some.inj hF
    exact aw_iret C E dX6_refound_37 rfl rfl (bw_ret rfl)
  · refine aw_aload_0 C dX6_refound_7 ?_
    refine aw_iload_2 C dX6_refound_8 ?_
    refine bw_V1i C dX6_refound_9 kyX6_isPart lX6_69 kiX6_isPart kvX6_isPart (aw_rv C rfl rfl) rfl rfl (ctX6_isPart a2 h _ rfl) ?_
    refine bw_if_eq (tgt := 35) C dX6_refound_12 (by decide) hF (fun hF => ?_) (fun hF => ?_)
    · refine aw_bipush C dX6_refound_35 lb_m2 ?_
      obtain rfl := Option.some.inj hF
      exact aw_iret C E dX6_refound_37 rfl rfl (bw_ret rfl)
    · refine aw_iload_3 C dX6_refound_15 ?_
      refine aw_iload_4 C dX6_refound_16 ?_
      refine aw_sipush C dX6_refound_18 ls_200 ?_
      refine bw_S3i C dX6_refound_21 kyX6_areWaters lX6_178 ksX6_areWaters rfl rfl (ctX6_areWaters a3 a4 (200 : Int32) h _ rfl) ?_
      refine bw_if_eq (tgt := 35) C dX6_refound_24 (by decide) hF (fun hF => ?_) (fun hF => ?_)
      · refine aw_bipush C dX6_refound_35 lb_m2 ?_
        obtain rfl := Option.some.inj hF
        exact aw_iret C E dX6_refound_37 rfl rfl (bw_ret rfl)
      · refine aw_iload_5 C dX6_refound_27 ?_
        refine bw_S1i C dX6_refound_29 kyX6_isLine lX6_122 ksX6_isLine rfl rfl (ctX6_isLine a5 h _ rfl) ?_
        refine bw_if_ne (tgt := 38) C dX6_refound_32 (by decide) hF (fun hF => ?_) (fun hF => ?_)
        · refine aw_aload_0 C dX6_refound_38 ?_
          refine aw_getR C dX6_refound_39 fX6_18 gX6_6 rfl rfl ?_
          refine aw_iload_1 C dX6_refound_42 ?_
          obtain ⟨s1, hF⟩ := bw_side hF
          refine aw_iald C dX6_refound_43 rfl (aw_ix s1) ?_
          refine aw_iconst C dX6_refound_44 li_m1 ?_
          refine bw_icmp_ne (tgt := 51) C dX6_refound_45 (by decide) hF (fun hF => ?_) (fun hF => ?_)
          · refine aw_aload_0 C dX6_refound_51 ?_
            refine aw_getR C dX6_refound_52 fX6_21 gX6_7 rfl rfl ?_
            refine aw_iload_1 C dX6_refound_55 ?_
            obtain ⟨s2, hF⟩ := bw_side hF
            refine aw_iald C dX6_refound_56 rfl (aw_ix s2) ?_
            refine aw_bipush C dX6_refound_57 lb_8 ?_
            refine bw_icmp_le (tgt := 65) C dX6_refound_59 (by decide) hF (fun hF => ?_) (fun hF => ?_)
            · refine aw_iload_3 C dX6_refound_65 ?_
              refine aw_istore_6 C dX6_refound_66 rfl rfl ?_
              refine aw_loop_rule (fun u68 : (Int32 × aw_H) => AW X 10 68 [.ref 71, .int a1, .int a2, .int a3, .int a4, .int a5, .int u68.1, .retAddr 0, .retAddr 0, .retAddr 0] [] wL wR u68.2 0 0) (fun q => q = y) (fun u68 y68 hF hK => ?_) n (a3, h) _ hF rfl
              unfold BX6_refound_68 at hF
              refine aw_iload_6 C dX6_refound_68 ?_
              refine aw_iload_3 C dX6_refound_70 ?_
              refine aw_iload_4 C dX6_refound_71 ?_
              refine aw_iadd C dX6_refound_73 ?_
              refine bw_icmp_gt (tgt := 106) C dX6_refound_74 (by decide) hF (fun hF => ?_) (fun hF => ?_)
              · refine aw_aload_0 C dX6_refound_106 ?_
                refine aw_iload_2 C dX6_refound_107 ?_
                refine aw_iconst C dX6_refound_108 li_3 ?_
                obtain ⟨q3, e4, hF⟩ := bw_bind hF
                refine bw_V2i C dX6_refound_109 kyX6_at lX6_77 kiX6_at kvX6_at (aw_rv C rfl rfl) rfl rfl (ctX6_at a2 (3 : Int32) u68.2 q3 e4) ?_
                refine aw_istore_6 C dX6_refound_112 rfl rfl ?_
                refine aw_iconst C dX6_refound_114 li_0 ?_
                refine aw_istore_7 C dX6_refound_115 rfl rfl ?_
                refine aw_iconst C dX6_refound_117 li_m1 ?_
                refine aw_istore_8 C dX6_refound_118 rfl rfl ?_
                refine aw_sipush C dX6_refound_120 ls_1023 ?_
                refine aw_istore_9 C dX6_refound_123 rfl rfl ?_
                refine aw_loop_rule4 (fun (v1 v2 v3 : Int32) (v4 : aw_H) => AW X 10 125 [.ref 71, .int a1, .int a2, .int a3, .int a4, .int a5, .int q3, .int v1, .int v2, .int v3] [] wL wR v4 0 0) _ (fun v1 v2 v3 v4 y125 hF hK => ?_) n (0 : Int32) (-1 : Int32) (1023 : Int32) (u68.2) _ hF hK
                unfold BX6_refound_125 at hF
                dsimp only at hF
                refine aw_iload_9 C dX6_refound_125 ?_
                refine bw_if_lt (tgt := 163) C dX6_refound_127 (by decide) hF (fun hF => ?_) (fun hF => ?_)
                · refine aw_aload_0 C dX6_refound_163 ?_
                  refine aw_iload_2 C dX6_refound_164 ?_
                  refine aw_iconst C dX6_refound_165 li_3 ?_
                  refine aw_iload_6 C dX6_refound_166 ?_
                  obtain ⟨q5, e6, hF⟩ := bw_bind hF
                  refine bw_V3v C dX6_refound_168 kyX6_lays lX6_65 kiX6_lays kvX6_lays (aw_rv C rfl rfl) rfl rfl (ctX6_lays a2 (3 : Int32) q3 v4 q5 e6) ?_
                  refine aw_iload_5 C dX6_refound_171 ?_
                  refine bw_if_ne (tgt := 181) C dX6_refound_173 (by decide) hF (fun hF => ?_) (fun hF => ?_)
                  · refine aw_iload_8 C dX6_refound_181 ?_
                    obtain rfl := Option.some.inj hF
                    have hK : _ = y := hK
                    subst hK
                    exact aw_iret C E dX6_refound_183 rfl rfl (bw_ret rfl)
                  · refine aw_iload_7 C dX6_refound_176 ?_
                    refine aw_goto (tgt := 183) C dX6_refound_178 (by decide) ?_
                    obtain rfl := Option.some.inj hF
                    have hK : _ = y := hK
                    subst hK
                    exact aw_iret C E dX6_refound_183 rfl rfl (bw_ret rfl)
                · refine aw_aload_0 C dX6_refound_130 ?_
                  refine aw_iload_2 C dX6_refound_131 ?_
                  refine aw_iconst C dX6_refound_132 li_3 ?_
                  refine aw_iload_9 C dX6_refound_133 ?_
                  obtain ⟨q7, e8, hF⟩ := bw_bind hF
                  refine bw_V3v C dX6_refound_135 kyX6_lays lX6_65 kiX6_lays kvX6_lays (aw_rv C rfl rfl) rfl rfl (ctX6_lays a2 (3 : Int32) v3 v4 q7 e8) ?_
                  refine aw_aload_0 C dX6_refound_138 ?_
                  refine aw_iload_1 C dX6_refound_139 ?_
                  refine aw_iload_2 C dX6_refound_140 ?_
                  refine aw_iload_3 C dX6_refound_141 ?_
                  refine aw_iload_4 C dX6_refound_142 ?_
                  obtain ⟨q9, e10, hF⟩ := bw_bind hF
                  refine bw_V4i C dX6_refound_144 kyX6_areHighs lX6_199 kiX6_areHighs kvX6_areHighs (aw_rv C rfl rfl) rfl rfl (ctX6_areHighs n a1 a2 a3 a4 q7 q9 e10) ?_
                  refine bw_if_eq (tgt := 157) C dX6_refound_147 (by decide) hF (fun hF => ?_) (fun hF => ?_)
                  · refine aw_iinc_9 C dX6_refound_157 li_m1 rfl rfl ?_
                    refine aw_goto (tgt := 125) C dX6_refound_160 (by decide) ?_
                    cases hF
                    have hK := aw_e4l hK
                    exact hK
                  · refine aw_iinc_7 C dX6_refound_150 li_1 rfl rfl ?_
                    refine aw_iload_9 C dX6_refound_153 ?_
                    refine aw_istore_8 C dX6_refound_155 rfl rfl ?_
                    refine aw_iinc_9 C dX6_refound_157 li_m1 rfl rfl ?_
                    refine aw_goto (tgt := 125) C dX6_refound_160 (by decide) ?_
                    cases hF
                    have hK := aw_e4l hK
                    exact hK
              · refine aw_aload_0 C dX6_refound_77 ?_
                refine aw_getR C dX6_refound_78 fX6_28 gX6_9 rfl rfl ?_
                refine aw_iload_6 C dX6_refound_81 ?_
                refine aw_iload_3 C dX6_refound_83 ?_
                refine aw_isub C dX6_refound_84 ?_
                refine aw_aload_0 C dX6_refound_85 ?_
                refine aw_iload_6 C dX6_refound_86 ?_
                obtain ⟨q11, e12, hF⟩ := bw_bind hF
                refine bw_V1l C dX6_refound_88 kyX6_sumAt lX6_158 kiX6_sumAt kvX6_sumAt (aw_rv C rfl rfl) rfl rfl (ctX6_sumAt n u68.1 u68.2 q11 e12) ?_
                refine aw_aload_0 C dX6_refound_91 ?_
                refine aw_iload_2 C dX6_refound_92 ?_
                refine aw_iload_6 C dX6_refound_93 ?_
                obtain ⟨q13, e14, hF⟩ := bw_bind hF
                refine bw_V2l C dX6_refound_95 kyX6_heightBy lX6_152 kiX6_heightBy kvX6_heightBy (aw_rv C rfl rfl) rfl rfl (ctX6_heightBy n a2 u68.1 u68.2 q13 e14) ?_
                refine aw_lsub C dX6_refound_98 ?_
                obtain ⟨s15, hF⟩ := bw_side hF
                refine aw_last C dX6_refound_99 rfl (aw_ix s15) ?_
                refine aw_iinc_6 C dX6_refound_100 li_1 rfl rfl ?_
                refine aw_goto (tgt := 68) C dX6_refound_103 (by decide) ?_
                cases hF
                exact hK
            · refine aw_bipush C dX6_refound_62 lb_m2 ?_
              obtain rfl := Option.some.inj hF
              exact aw_iret C E dX6_refound_64 rfl rfl (bw_ret rfl)
          · refine aw_bipush C dX6_refound_48 lb_m11 ?_
            obtain rfl := Option.some.inj hF
            exact aw_iret C E dX6_refound_50 rfl rfl (bw_ret rfl)
        · refine aw_bipush C dX6_refound_35 lb_m2 ?_
          obtain rfl := Option.some.inj hF
          exact aw_iret C E dX6_refound_37 rfl rfl (bw_ret rfl)
def BX6_sheet_71 (a1 : Int32) (u71 : (Int32 × aw_H)) : Option ((Int32 × aw_H) ⊕ (Int32 × aw_H)) :=
  (if (40 : Int32) ≤ u71.1 then some (Sum.inr ((1 : Int32), u71.2)) else (if aw_inb (((40 : Int32) * a1) + u71.1) 160 = true then some (Sum.inl ((u71.1 + (1 : Int32)), (aw_sL u71.2 76 ((((40 : Int32) * a1) + u71.1)).toNatClampNeg (0 : Int64)))) else none))
def BX6_sheet_71' (a1 : Int32) (u71 : (Int32 × aw_H)) : Option ((Int32 × aw_H) ⊕ (Int32 × aw_H)) :=
  (if (40 : Int32) ≤ u71.1 then some (Sum.inr ((1 : Int32), u71.2)) else (if aw_inb (((40 : Int32) * a1) + u71.1) 160 = true then some (Sum.inl ((u71.1 + (1 : Int32)), (aw_sL u71.2 76 ((((40 : Int32) * a1) + u71.1)).toNatClampNeg (0 : Int64)))) else none))
def BX6_sheet_71'' (a1 : Int32) (u71 : (Int32 × aw_H)) : Option ((Int32 × aw_H) ⊕ (Int32 × aw_H)) :=
  (if (40 : Int32) ≤ u71.1 then some (Sum.inr ((1 : Int32), u71.2)) else (if aw_inb (((40 : Int32) * a1) + u71.1) 160 = true then some (Sum.inl ((u71.1 + (1 : Int32)), (aw_sL u71.2 76 ((((40 : Int32) * a1) + u71.1)).toNatClampNeg (0 : Int64)))) else none))
def BX6_sheet_71''' (a1 : Int32) (u71 : (Int32 × aw_H)) : Option ((Int32 × aw_H) ⊕ (Int32 × aw_H)) :=
  (if (40 : Int32) ≤ u71.1 then some (Sum.inr ((1 : Int32), u71.2)) else (if aw_inb (((40 : Int32) * a1) + u71.1) 160 = true then some (Sum.inl ((u71.1 + (1 : Int32)), (aw_sL u71.2 76 ((((40 : Int32) * a1) + u71.1)).toNatClampNeg (0 : Int64)))) else none))
def BX6_sheet_71'''' (a1 : Int32) (u71 : (Int32 × aw_H)) : Option ((Int32 × aw_H) ⊕ (Int32 × aw_H)) :=
  (if (40 : Int32) ≤ u71.1 then some (Sum.inr ((1 : Int32), u71.2)) else (if aw_inb (((40 : Int32) * a1) + u71.1) 160 = true then some (Sum.inl ((u71.1 + (1 : Int32)), (aw_sL u71.2 76 ((((40 : Int32) * a1) + u71.1)).toNatClampNeg (0 : Int64)))) else none))
def BX6_sheet_71''''' (a1 : Int32) (u71 : (Int32 × aw_H)) : Option ((Int32 × aw_H) ⊕ (Int32 × aw_H)) :=
  (if (40 : Int32) ≤ u71.1 then some (Sum.inr ((1 : Int32), u71.2)) else (if aw_inb (((40 : Int32) * a1) + u71.1) 160 = true then some (Sum.inl ((u71.1 + (1 : Int32)), (aw_sL u71.2 76 ((((40 : Int32) * a1) + u71.1)).toNatClampNeg (0 : Int64)))) else none))
def BX6_sheet_71'''''' (a1 : Int32) (u71 : (Int32 × aw_H)) : Option ((Int32 × aw_H) ⊕ (Int32 × aw_H)) :=
  (if (40 : Int32) ≤ u71.1 then some (Sum.inr ((1 : Int32), u71.2)) else (if aw_inb (((40 : Int32) * a1) + u71.1) 160 = true then some (Sum.inl ((u71.1 + (1 : Int32)), (aw_sL u71.2 76 ((((40 : Int32) * a1) + u71.1)).toNatClampNeg (0 : Int64)))) else none))
def BX6_sheet_71''''''' (a1 : Int32) (u71 : (Int32 × aw_H)) : Option ((Int32 × aw_H) ⊕ (Int32 × aw_H)) :=
  (if (40 : Int32) ≤ u71.1 then some (Sum.inr ((1 : Int32), u71.2)) else (if aw_inb (((40 : Int32) * a1) + u71.1) 160 = true then some (Sum.inl ((u71.1 + (1 : Int32)), (aw_sL u71.2 76 ((((40 : Int32) * a1) + u71.1)).toNatClampNeg (0 : Int64)))) else none))
def FX6_sheet (n : Nat) (a1 : Int32) (a2 : Int32) (a3 : Int32) (h : aw_H) : Option (Int32 × aw_H) :=
  (if (FX6_isSheet a1) = 0 then some ((-2 : Int32), h) else (if (FX6_isIn ((a2).toInt64) (-1 : Int64) (1 : Int64)) = 0 then some ((-2 : Int32), h) else (if a2 = (-1 : Int32) then (if a2 = (-1 : Int32) then (if aw_inb a1 4 = true then (if a2 = (-1 : Int32) then (if aw_inb a1 4 = true then aw_loop (BX6_sheet_71' a1) n ((0 : Int32), (aw_sI (aw_sI h 74 (a1).toNatClampNeg a2) 75 (a1).toNatClampNeg (0 : Int32))) else none) else (if aw_inb a1 4 = true then aw_loop (BX6_sheet_71 a1) n ((0 : Int32), (aw_sI (aw_sI h 74 (a1).toNatClampNeg a2) 75 (a1).toNatClampNeg a3)) else none)) else none) else (if 0 ≤ a3 then (if aw_inb a1 4 = true then (if a2 = (-1 : Int32) then (if aw_inb a1 4 = true then aw_loop (BX6_sheet_71''' a1) n ((0 : Int32), (aw_sI (aw_sI h 74 (a1).toNatClampNeg a2) 75 (a1).toNatClampNeg (0 : Int32))) else none) else (if aw_inb a1 4 = true then aw_loop (BX6_sheet_71'' a1) n ((0 : Int32), (aw_sI (aw_sI h 74 (a1).toNatClampNeg a2) 75 (a1).toNatClampNeg a3)) else none)) else none) else some ((-14 : Int32), h))) else (if a3 ≤ (40 : Int32) then (if a2 = (-1 : Int32) then (if aw_inb a1 4 = true then (if a2 = (-1 : Int32) then (if aw_inb a1 4 = true then aw_loop (BX6_sheet_71''''' a1) n ((0 : Int32), (aw_sI (aw_sI h 74 (a1).toNatClampNeg a2) 75 (a1).toNatClampNeg (0 : Int32))) else none) else (if aw_inb a1 4 = true then aw_loop (BX6_sheet_71'''' a1) n ((0 : Int32), (aw_sI (aw_sI h 74 (a1).toNatClampNeg a2) 75 (a1).toNatClampNeg a3)) else none)) else none) else (if 0 ≤ a3 then (if aw_inb a1 4 = true then (if a2 = (-1 : Int32) then (if aw_inb a1 4 = true then aw_loop (BX6_sheet_71''''''' a1) n ((0 : Int32), (aw_sI (aw_sI h 74 (a1).toNatClampNeg a2) 75 (a1).toNatClampNeg (0 : Int32))) else none) else (if aw_inb a1 4 = true then aw_loop (BX6_sheet_71'''''' a1) n ((0 : Int32), (aw_sI (aw_sI h 74 (a1).toNatClampNeg a2) 75 (a1).toNatClampNeg a3)) else none)) else none) else some ((-14 : Int32), h))) else some ((-2 : Int32), h)))))
set_option maxRecDepth 100000 in
set_option maxHeartbeats 4000000 in
theorem ctX6_sheet (n : Nat) (a1 : Int32) (a2 : Int32) (a3 : Int32) (h : aw_H) (y : Int32 × aw_H) (hF : FX6_sheet n a1 a2 a3 h = some y) : Ct 2 0 0 yX6_sheet cX6_sheet 5 (some .int) [.ref 71, .int a1, .int a2, .int a3] wL wR h (aw_D (some (.int y.1)) y.2) := by
  refine Ct.of (ls0 := [.ref 71, .int a1, .int a2, .int a3, .retAddr 0]) (by decide +kernel) rfl rfl (fun X C E hnm => ?_)
  have C : aw_C X RX6 cX6_sheet 5 2 0 0 := C
  unfold FX6_sheet at hF
  refine aw_iload_1 C dX6_sheet_0 ?_
  refine bw_S1i C dX6_sheet_1 kyX6_isSheet lX6_192 ksX6_isSheet rfl rfl (ctX6_isSheet a1 h _ rfl) ?_
  refine bw_if_eq (tgt := 30) C dX6_sheet_4 (by decide) hF (fun hF => ?_) (fun hF => ?_)
  · refine aw_bipush C dX6_sheet_30 lb_m2 ?_
    obtain rfl := Option.some.inj hF
    exact aw_iret C E dX6_sheet_32 rfl rfl (bw_ret rfl)
  · refine aw_iload_2 C dX6_sheet_7 ?_
    refine aw_i2l C dX6_sheet_8 ?_
    refine aw_ldc2 C dX6_sheet_9 nX6_305 ?_
    refine aw_lconst C dX6_sheet_12 ll_1 ?_
    refine bw_S3i C dX6_sheet_13 kyX6_isIn lX6_49 ksX6_isIn rfl rfl (ctX6_isIn ((a2).toInt64) (-1 : Int64) (1 : Int64) h _ rfl) ?_
    refine bw_if_eq (tgt := 30) C dX6_sheet_16 (by decide) hF (fun hF => ?_) (fun hF => ?_)
    · refine aw_bipush C dX6_sheet_30 lb_m2 ?_
      obtain rfl := Option.some.inj hF
      exact aw_iret C E dX6_sheet_32 rfl rfl (bw_ret rfl)
    · refine aw_iload_2 C dX6_sheet_19 ?_
      refine aw_iconst C dX6_sheet_20 li_m1 ?_
      refine bw_icmp_eq (tgt := 33) C dX6_sheet_21 (by decide) hF (fun hF => ?_) (fun hF => ?_)
      · refine aw_iload_2 C dX6_sheet_33 ?_
        refine aw_iconst C dX6_sheet_34 li_m1 ?_
        refine bw_icmp_eq (tgt := 45) C dX6_sheet_35 (by decide) hF (fun hF => ?_) (fun hF => ?_)
        · refine aw_aload_0 C dX6_sheet_45 ?_
          refine aw_getR C dX6_sheet_46 fX6_18 gX6_6 rfl rfl ?_
          refine aw_iload_1 C dX6_sheet_49 ?_
          refine aw_iload_2 C dX6_sheet_50 ?_
          obtain ⟨s1, hF⟩ := bw_side hF
          refine aw_iast C dX6_sheet_51 rfl (aw_ix s1) ?_
          refine aw_aload_0 C dX6_sheet_52 ?_
          refine aw_getR C dX6_sheet_53 fX6_21 gX6_7 rfl rfl ?_
          refine aw_iload_1 C dX6_sheet_56 ?_
          refine aw_iload_2 C dX6_sheet_57 ?_
          refine aw_iconst C dX6_sheet_58 li_m1 ?_
          refine bw_icmp_ne (tgt := 66) C dX6_sheet_59 (by decide) hF (fun hF => ?_) (fun hF => ?_)
          · refine aw_iload_3 C dX6_sheet_66 ?_
            obtain ⟨s2, hF⟩ := bw_side hF
            refine aw_iast C dX6_sheet_67 rfl (aw_ix s2) ?_
            refine aw_iconst C dX6_sheet_68 li_0 ?_
            refine aw_istore_4 C dX6_sheet_69 rfl rfl ?_
            refine aw_weak (show aw_le [.ref 71, .int a1, .retAddr 0, .retAddr 0, .int (0 : Int32)] [.ref 71, .int a1, .int a2, .int a3, .int (0 : Int32)] from ⟨Or.inr rfl, Or.inr rfl, Or.inl rfl, Or.inl rfl, Or.inr rfl, trivial⟩) ?_
            refine aw_loop_rule (fun u71 : (Int32 × aw_H) => AW X 5 71 [.ref 71, .int a1, .retAddr 0, .retAddr 0, .int u71.1] [] wL wR u71.2 0 0) (fun q => q = y) (fun u71 y71 hF hK => ?_) n ((0 : Int32), (aw_sI (aw_sI h 74 (a1).toNatClampNeg a2) 75 (a1).toNatClampNeg a3)) _ hF rfl
            unfold BX6_sheet_71 at hF
            refine aw_iload_4 C dX6_sheet_71 ?_
            refine aw_bipush C dX6_sheet_73 lb_40 ?_
            refine bw_icmp_ge (tgt := 97) C dX6_sheet_75 (by decide) hF (fun hF => ?_) (fun hF => ?_)
            · refine aw_iconst C dX6_sheet_97 li_1 ?_
              obtain rfl := Option.some.inj hF
              have hK : _ = y := hK
              subst hK
              exact aw_iret C E dX6_sheet_98 rfl rfl (bw_ret rfl)
            · refine aw_aload_0 C dX6_sheet_78 ?_
              refine aw_getR C dX6_sheet_79 fX6_24 gX6_8 rfl rfl ?_
              refine aw_bipush C dX6_sheet_82 lb_40 ?_
              refine aw_iload_1 C dX6_sheet_84 ?_
              refine aw_imul C dX6_sheet_85 ?_
              refine aw_iload_4 C dX6_sheet_86 ?_
              refine aw_iadd C dX6_sheet_88 ?_
              refine aw_lconst C dX6_sheet_89 ll_0 ?_
              obtain ⟨s3, hF⟩ := bw_side hF
              refine aw_last C dX6_sheet_90 rfl (aw_ix s3) ?_
              refine aw_iinc_4 C dX6_sheet_91 li_1 rfl rfl ?_
              refine aw_goto (tgt := 71) C dX6_sheet_94 (by decide) ?_
              cases hF
              exact hK
          · refine aw_iconst C dX6_sheet_62 li_0 ?_
            refine aw_goto (tgt := 67) C dX6_sheet_63 (by decide) ?_
            obtain ⟨s4, hF⟩ := bw_side hF
            refine aw_iast C dX6_sheet_67 rfl (aw_ix s4) ?_
            refine aw_iconst C dX6_sheet_68 li_0 ?_
            refine aw_istore_4 C dX6_sheet_69 rfl rfl ?_
            refine aw_weak (show aw_le [.ref 71, .int a1, .retAddr 0, .retAddr 0, .int (0 : Int32)] [.ref 71, .int a1, .int a2, .int a3, .int (0 : Int32)] from ⟨Or.inr rfl, Or.inr rfl, Or.inl rfl, Or.inl rfl, Or.inr rfl, trivial⟩) ?_
            refine aw_loop_rule (fun u71 : (Int32 × aw_H) => AW X 5 71 [.ref 71, .int a1, .retAddr 0, .retAddr 0, .int u71.1] [] wL wR u71.2 0 0) (fun q => q = y) (fun u71 y71 hF hK => ?_) n ((0 : Int32), (aw_sI (aw_sI h 74 (a1).toNatClampNeg a2) 75 (a1).toNatClampNeg (0 : Int32))) _ hF rfl
            unfold BX6_sheet_71' at hF
            refine aw_iload_4 C dX6_sheet_71 ?_
            refine aw_bipush C dX6_sheet_73 lb_40 ?_
            refine bw_icmp_ge (tgt := 97) C dX6_sheet_75 (by decide) hF (fun hF => ?_) (fun hF => ?_)
            · refine aw_iconst C dX6_sheet_97 li_1 ?_
              obtain rfl := Option.some.inj hF
              have hK : _ = y := hK
              subst hK
              exact aw_iret C E dX6_sheet_98 rfl rfl (bw_ret rfl)
            · refine aw_aload_0 C dX6_sheet_78 ?_
              refine aw_getR C dX6_sheet_79 fX6_24 gX6_8 rfl rfl ?_
              refine aw_bipush C dX6_sheet_82 lb_40 ?_
              refine aw_iload_1 C dX6_sheet_84 ?_
              refine aw_imul C dX6_sheet_85 ?_
              refine aw_iload_4 C dX6_sheet_86 ?_
              refine aw_iadd C dX6_sheet_88 ?_
              refine aw_lconst C dX6_sheet_89 ll_0 ?_
              obtain ⟨s5, hF⟩ := bw_side hF
              refine aw_last C dX6_sheet_90 rfl (aw_ix s5) ?_
              refine aw_iinc_4 C dX6_sheet_91 li_1 rfl rfl ?_
              refine aw_goto (tgt := 71) C dX6_sheet_94 (by decide) ?_
              cases hF
              exact hK
        · refine aw_iload_3 C dX6_sheet_38 ?_
          refine bw_if_ge (tgt := 45) C dX6_sheet_39 (by decide) hF (fun hF => ?_) (fun hF => ?_)
          · refine aw_aload_0 C dX6_sheet_45 ?_
            refine aw_getR C dX6_sheet_46 fX6_18 gX6_6 rfl rfl ?_
            refine aw_iload_1 C dX6_sheet_49 ?_
            refine aw_iload_2 C dX6_sheet_50 ?_
            obtain ⟨s6, hF⟩ := bw_side hF
            refine aw_iast C dX6_sheet_51 rfl (aw_ix s6) ?_
            refine aw_aload_0 C dX6_sheet_52 ?_
            refine aw_getR C dX6_sheet_53 fX6_21 gX6_7 rfl rfl ?_
            refine aw_iload_1 C dX6_sheet_56 ?_
            refine aw_iload_2 C dX6_sheet_57 ?_
            refine aw_iconst C dX6_sheet_58 li_m1 ?_
            refine bw_icmp_ne (tgt := 66) C dX6_sheet_59 (by decide) hF (fun hF => ?_) (fun hF => ?_)
            · refine aw_iload_3 C dX6_sheet_66 ?_
              obtain ⟨s7, hF⟩ := bw_side hF
              refine aw_iast C dX6_sheet_67 rfl (aw_ix s7) ?_
              refine aw_iconst C dX6_sheet_68 li_0 ?_
              refine aw_istore_4 C dX6_sheet_69 rfl rfl ?_
              refine aw_weak (show aw_le [.ref 71, .int a1, .retAddr 0, .retAddr 0, .int (0 : Int32)] [.ref 71, .int a1, .int a2, .int a3, .int (0 : Int32)] from ⟨Or.inr rfl, Or.inr rfl, Or.inl rfl, Or.inl rfl, Or.inr rfl, trivial⟩) ?_
              refine aw_loop_rule (fun u71 : (Int32 × aw_H) => AW X 5 71 [.ref 71, .int a1, .retAddr 0, .retAddr 0, .int u71.1] [] wL wR u71.2 0 0) (fun q => q = y) (fun u71 y71 hF hK => ?_) n ((0 : Int32), (aw_sI (aw_sI h 74 (a1).toNatClampNeg a2) 75 (a1).toNatClampNeg a3)) _ hF rfl
              unfold BX6_sheet_71'' at hF
              refine aw_iload_4 C dX6_sheet_71 ?_
              refine aw_bipush C dX6_sheet_73 lb_40 ?_
              refine bw_icmp_ge (tgt := 97) C dX6_sheet_75 (by decide) hF (fun hF => ?_) (fun hF => ?_)
              · refine aw_iconst C dX6_sheet_97 li_1 ?_
                obtain rfl := Option.some.inj hF
                have hK : _ = y := hK
                subst hK
                exact aw_iret C E dX6_sheet_98 rfl rfl (bw_ret rfl)
              · refine aw_aload_0 C dX6_sheet_78 ?_
                refine aw_getR C dX6_sheet_79 fX6_24 gX6_8 rfl rfl ?_
                refine aw_bipush C dX6_sheet_82 lb_40 ?_
                refine aw_iload_1 C dX6_sheet_84 ?_
                refine aw_imul C dX6_sheet_85 ?_
                refine aw_iload_4 C dX6_sheet_86 ?_
                refine aw_iadd C dX6_sheet_88 ?_
                refine aw_lconst C dX6_sheet_89 ll_0 ?_
                obtain ⟨s8, hF⟩ := bw_side hF
                refine aw_last C dX6_sheet_90 rfl (aw_ix s8) ?_
                refine aw_iinc_4 C dX6_sheet_91 li_1 rfl rfl ?_
                refine aw_goto (tgt := 71) C dX6_sheet_94 (by decide) ?_
                cases hF
                exact hK
            · refine aw_iconst C dX6_sheet_62 li_0 ?_
              refine aw_goto (tgt := 67) C dX6_sheet_63 (by decide) ?_
              obtain ⟨s9, hF⟩ := bw_side hF
              refine aw_iast C dX6_sheet_67 rfl (aw_ix s9) ?_
              refine aw_iconst C dX6_sheet_68 li_0 ?_
              refine aw_istore_4 C dX6_sheet_69 rfl rfl ?_
              refine aw_weak (show aw_le [.ref 71, .int a1, .retAddr 0, .retAddr 0, .int (0 : Int32)] [.ref 71, .int a1, .int a2, .int a3, .int (0 : Int32)] from ⟨Or.inr rfl, Or.inr rfl, Or.inl rfl, Or.inl rfl, Or.inr rfl, trivial⟩) ?_
              refine aw_loop_rule (fun u71 : (Int32 × aw_H) => AW X 5 71 [.ref 71, .int a1, .retAddr 0, .retAddr 0, .int u71.1] [] wL wR u71.2 0 0) (fun q => q = y) (fun u71 y71 hF hK => ?_) n ((0 : Int32), (aw_sI (aw_sI h 74 (a1).toNatClampNeg a2) 75 (a1).toNatClampNeg (0 : Int32))) _ hF rfl
              unfold BX6_sheet_71''' at hF
              refine aw_iload_4 C dX6_sheet_71 ?_
              refine aw_bipush C dX6_sheet_73 lb_40 ?_
              refine bw_icmp_ge (tgt := 97) C dX6_sheet_75 (by decide) hF (fun hF => ?_) (fun hF => ?_)
              · refine aw_iconst C dX6_sheet_97 li_1 ?_
                obtain rfl := Option.some.inj hF
                have hK : _ = y := hK
                subst hK
                exact aw_iret C E dX6_sheet_98 rfl rfl (bw_ret rfl)
              · refine aw_aload_0 C dX6_sheet_78 ?_
                refine aw_getR C dX6_sheet_79 fX6_24 gX6_8 rfl rfl ?_
                refine aw_bipush C dX6_sheet_82 lb_40 ?_
                refine aw_iload_1 C dX6_sheet_84 ?_
                refine aw_imul C dX6_sheet_85 ?_
                refine aw_iload_4 C dX6_sheet_86 ?_
                refine aw_iadd C dX6_sheet_88 ?_
                refine aw_lconst C dX6_sheet_89 ll_0 ?_
                obtain ⟨s10, hF⟩ := bw_side hF
                refine aw_last C dX6_sheet_90 rfl (aw_ix s10) ?_
                refine aw_iinc_4 C dX6_sheet_91 li_1 rfl rfl ?_
                refine aw_goto (tgt := 71) C dX6_sheet_94 (by decide) ?_
                cases hF
                exact hK
          · refine aw_bipush C dX6_sheet_42 lb_m14 ?_
            obtain rfl := Option.some.inj hF
            exact aw_iret C E dX6_sheet_44 rfl rfl (bw_ret rfl)
      · refine aw_iload_3 C dX6_sheet_24 ?_
        refine aw_bipush C dX6_sheet_25 lb_40 ?_
        refine bw_icmp_le (tgt := 33) C dX6_sheet_27 (by decide) hF (fun hF => ?_) (fun hF => ?_)
        · refine aw_iload_2 C dX6_sheet_33 ?_
          refine aw_iconst C dX6_sheet_34 li_m1 ?_
          refine bw_icmp_eq (tgt := 45) C dX6_sheet_35 (by decide) hF (fun hF => ?_) (fun hF => ?_)
          · refine aw_aload_0 C dX6_sheet_45 ?_
            refine aw_getR C dX6_sheet_46 fX6_18 gX6_6 rfl rfl ?_
            refine aw_iload_1 C dX6_sheet_49 ?_
            refine aw_iload_2 C dX6_sheet_50 ?_
            obtain ⟨s11, hF⟩ := bw_side hF
            refine aw_iast C dX6_sheet_51 rfl (aw_ix s11) ?_
            refine aw_aload_0 C dX6_sheet_52 ?_
            refine aw_getR C dX6_sheet_53 fX6_21 gX6_7 rfl rfl ?_
            refine aw_iload_1 C dX6_sheet_56 ?_
            refine aw_iload_2 C dX6_sheet_57 ?_
            refine aw_iconst C dX6_sheet_58 li_m1 ?_
            refine bw_icmp_ne (tgt := 66) C dX6_sheet_59 (by decide) hF (fun hF => ?_) (fun hF => ?_)
            · refine aw_iload_3 C dX6_sheet_66 ?_
              obtain ⟨s12, hF⟩ := bw_side hF
              refine aw_iast C dX6_sheet_67 rfl (aw_ix s12) ?_
              refine aw_iconst C dX6_sheet_68 li_0 ?_
              refine aw_istore_4 C dX6_sheet_69 rfl rfl ?_
              refine aw_weak (show aw_le [.ref 71, .int a1, .retAddr 0, .retAddr 0, .int (0 : Int32)] [.ref 71, .int a1, .int a2, .int a3, .int (0 : Int32)] from ⟨Or.inr rfl, Or.inr rfl, Or.inl rfl, Or.inl rfl, Or.inr rfl, trivial⟩) ?_
              refine aw_loop_rule (fun u71 : (Int32 × aw_H) => AW X 5 71 [.ref 71, .int a1, .retAddr 0, .retAddr 0, .int u71.1] [] wL wR u71.2 0 0) (fun q => q = y) (fun u71 y71 hF hK => ?_) n ((0 : Int32), (aw_sI (aw_sI h 74 (a1).toNatClampNeg a2) 75 (a1).toNatClampNeg a3)) _ hF rfl
              unfold BX6_sheet_71'''' at hF
              refine aw_iload_4 C dX6_sheet_71 ?_
              refine aw_bipush C dX6_sheet_73 lb_40 ?_
              refine bw_icmp_ge (tgt := 97) C dX6_sheet_75 (by decide) hF (fun hF => ?_) (fun hF => ?_)
              · refine aw_iconst C dX6_sheet_97 li_1 ?_
                obtain rfl := Option.some.inj hF
                have hK : _ = y := hK
                subst hK
                exact aw_iret C E dX6_sheet_98 rfl rfl (bw_ret rfl)
              · refine aw_aload_0 C dX6_sheet_78 ?_
                refine aw_getR C dX6_sheet_79 fX6_24 gX6_8 rfl rfl ?_
                refine aw_bipush C dX6_sheet_82 lb_40 ?_
                refine aw_iload_1 C dX6_sheet_84 ?_
                refine aw_imul C dX6_sheet_85 ?_
                refine aw_iload_4 C dX6_sheet_86 ?_
                refine aw_iadd C dX6_sheet_88 ?_
                refine aw_lconst C dX6_sheet_89 ll_0 ?_
                obtain ⟨s13, hF⟩ := bw_side hF
                refine aw_last C dX6_sheet_90 rfl (aw_ix s13) ?_
                refine aw_iinc_4 C dX6_sheet_91 li_1 rfl rfl ?_
                refine aw_goto (tgt := 71) C dX6_sheet_94 (by decide) ?_
                cases hF
                exact hK
            · refine aw_iconst C dX6_sheet_62 li_0 ?_
              refine aw_goto (tgt := 67) C dX6_sheet_63 (by decide) ?_
              obtain ⟨s14, hF⟩ := bw_side hF
              refine aw_iast C dX6_sheet_67 rfl (aw_ix s14) ?_
              refine aw_iconst C dX6_sheet_68 li_0 ?_
              refine aw_istore_4 C dX6_sheet_69 rfl rfl ?_
              refine aw_weak (show aw_le [.ref 71, .int a1, .retAddr 0, .retAddr 0, .int (0 : Int32)] [.ref 71, .int a1, .int a2, .int a3, .int (0 : Int32)] from ⟨Or.inr rfl, Or.inr rfl, Or.inl rfl, Or.inl rfl, Or.inr rfl, trivial⟩) ?_
              refine aw_loop_rule (fun u71 : (Int32 × aw_H) => AW X 5 71 [.ref 71, .int a1, .retAddr 0, .retAddr 0, .int u71.1] [] wL wR u71.2 0 0) (fun q => q = y) (fun u71 y71 hF hK => ?_) n ((0 : Int32), (aw_sI (aw_sI h 74 (a1).toNatClampNeg a2) 75 (a1).toNatClampNeg (0 : Int32))) _ hF rfl
              unfold BX6_sheet_71''''' at hF
              refine aw_iload_4 C dX6_sheet_71 ?_
              refine aw_bipush C dX6_sheet_73 lb_40 ?_
              refine bw_icmp_ge (tgt := 97) C dX6_sheet_75 (by decide) hF (fun hF => ?_) (fun hF => ?_)
              · refine aw_iconst C dX6_sheet_97 li_1 ?_
                obtain rfl := Option.some.inj hF
                have hK : _ = y := hK
                subst hK
                exact aw_iret C E dX6_sheet_98 rfl rfl (bw_ret rfl)
              · refine aw_aload_0 C dX6_sheet_78 ?_
                refine aw_getR C dX6_sheet_79 fX6_24 gX6_8 rfl rfl ?_
                refine aw_bipush C dX6_sheet_82 lb_40 ?_
                refine aw_iload_1 C dX6_sheet_84 ?_
                refine aw_imul C dX6_sheet_85 ?_
                refine aw_iload_4 C dX6_sheet_86 ?_
                refine aw_iadd C dX6_sheet_88 ?_
                refine aw_lconst C dX6_sheet_89 ll_0 ?_
                obtain ⟨s15, hF⟩ := bw_side hF
                refine aw_last C dX6_sheet_90 rfl (aw_ix s15) ?_
                refine aw_iinc_4 C dX6_sheet_91 li_1 rfl rfl ?_
                refine aw_goto (tgt := 71) C dX6_sheet_94 (by decide) ?_
                cases hF
                exact hK
          · refine aw_iload_3 C dX6_sheet_38 ?_
            refine bw_if_ge (tgt := 45) C dX6_sheet_39 (by decide) hF (fun hF => ?_) (fun hF => ?_)
            · refine aw_aload_0 C dX6_sheet_45 ?_
              refine aw_getR C dX6_sheet_46 fX6_18 gX6_6 rfl rfl ?_
              refine aw_iload_1 C dX6_sheet_49 ?_
              refine aw_iload_2 C dX6_sheet_50 ?_
              obtain ⟨s16, hF⟩ := bw_side hF
              refine aw_iast C dX6_sheet_51 rfl (aw_ix s16) ?_
              refine aw_aload_0 C dX6_sheet_52 ?_
              refine aw_getR C dX6_sheet_53 fX6_21 gX6_7 rfl rfl ?_
              refine aw_iload_1 C dX6_sheet_56 ?_
              refine aw_iload_2 C dX6_sheet_57 ?_
              refine aw_iconst C dX6_sheet_58 li_m1 ?_
              refine bw_icmp_ne (tgt := 66) C dX6_sheet_59 (by decide) hF (fun hF => ?_) (fun hF => ?_)
              · refine aw_iload_3 C dX6_sheet_66 ?_
                obtain ⟨s17, hF⟩ := bw_side hF
                refine aw_iast C dX6_sheet_67 rfl (aw_ix s17) ?_
                refine aw_iconst C dX6_sheet_68 li_0 ?_
                refine aw_istore_4 C dX6_sheet_69 rfl rfl ?_
                refine aw_weak (show aw_le [.ref 71, .int a1, .retAddr 0, .retAddr 0, .int (0 : Int32)] [.ref 71, .int a1, .int a2, .int a3, .int (0 : Int32)] from ⟨Or.inr rfl, Or.inr rfl, Or.inl rfl, Or.inl rfl, Or.inr rfl, trivial⟩) ?_
                refine aw_loop_rule (fun u71 : (Int32 × aw_H) => AW X 5 71 [.ref 71, .int a1, .retAddr 0, .retAddr 0, .int u71.1] [] wL wR u71.2 0 0) (fun q => q = y) (fun u71 y71 hF hK => ?_) n ((0 : Int32), (aw_sI (aw_sI h 74 (a1).toNatClampNeg a2) 75 (a1).toNatClampNeg a3)) _ hF rfl
                unfold BX6_sheet_71'''''' at hF
                refine aw_iload_4 C dX6_sheet_71 ?_
                refine aw_bipush C dX6_sheet_73 lb_40 ?_
                refine bw_icmp_ge (tgt := 97) C dX6_sheet_75 (by decide) hF (fun hF => ?_) (fun hF => ?_)
                · refine aw_iconst C dX6_sheet_97 li_1 ?_
                  obtain rfl := Option.some.inj hF
                  have hK : _ = y := hK
                  subst hK
                  exact aw_iret C E dX6_sheet_98 rfl rfl (bw_ret rfl)
                · refine aw_aload_0 C dX6_sheet_78 ?_
                  refine aw_getR C dX6_sheet_79 fX6_24 gX6_8 rfl rfl ?_
                  refine aw_bipush C dX6_sheet_82 lb_40 ?_
                  refine aw_iload_1 C dX6_sheet_84 ?_
                  refine aw_imul C dX6_sheet_85 ?_
                  refine aw_iload_4 C dX6_sheet_86 ?_
                  refine aw_iadd C dX6_sheet_88 ?_
                  refine aw_lconst C dX6_sheet_89 ll_0 ?_
                  obtain ⟨s18, hF⟩ := bw_side hF
                  refine aw_last C dX6_sheet_90 rfl (aw_ix s18) ?_
                  refine aw_iinc_4 C dX6_sheet_91 li_1 rfl rfl ?_
                  refine aw_goto (tgt := 71) C dX6_sheet_94 (by decide) ?_
                  cases hF
                  exact hK
              · refine aw_iconst C dX6_sheet_62 li_0 ?_
                refine aw_goto (tgt := 67) C dX6_sheet_63 (by decide) ?_
                obtain ⟨s19, hF⟩ := bw_side hF
                refine aw_iast C dX6_sheet_67 rfl (aw_ix s19) ?_
                refine aw_iconst C dX6_sheet_68 li_0 ?_
                refine aw_istore_4 C dX6_sheet_69 rfl rfl ?_
                refine aw_weak (show aw_le [.ref 71, .int a1, .retAddr 0, .retAddr 0, .int (0 : Int32)] [.ref 71, .int a1, .int a2, .int a3, .int (0 : Int32)] from ⟨Or.inr rfl, Or.inr rfl, Or.inl rfl, Or.inl rfl, Or.inr rfl, trivial⟩) ?_
                refine aw_loop_rule (fun u71 : (Int32 × aw_H) => AW X 5 71 [.ref 71, .int a1, .retAddr 0, .retAddr 0, .int u71.1] [] wL wR u71.2 0 0) (fun q => q = y) (fun u71 y71 hF hK => ?_) n ((0 : Int32), (aw_sI (aw_sI h 74 (a1).toNatClampNeg a2) 75 (a1).toNatClampNeg (0 : Int32))) _ hF rfl
                unfold BX6_sheet_71''''''' at hF
                refine aw_iload_4 C dX6_sheet_71 ?_
                refine aw_bipush C dX6_sheet_73 lb_40 ?_
                refine bw_icmp_ge (tgt := 97) C dX6_sheet_75 (by decide) hF (fun hF => ?_) (fun hF => ?_)
                · refine aw_iconst C dX6_sheet_97 li_1 ?_
                  obtain rfl := Option.some.inj hF
                  have hK : _ = y := hK
                  subst hK
                  exact aw_iret C E dX6_sheet_98 rfl rfl (bw_ret rfl)
                · refine aw_aload_0 C dX6_sheet_78 ?_
                  refine aw_getR C dX6_sheet_79 fX6_24 gX6_8 rfl rfl ?_
                  refine aw_bipush C dX6_sheet_82 lb_40 ?_
                  refine aw_iload_1 C dX6_sheet_84 ?_
                  refine aw_imul C dX6_sheet_85 ?_
                  refine aw_iload_4 C dX6_sheet_86 ?_
                  refine aw_iadd C dX6_sheet_88 ?_
                  refine aw_lconst C dX6_sheet_89 ll_0 ?_
                  obtain ⟨s20, hF⟩ := bw_side hF
                  refine aw_last C dX6_sheet_90 rfl (aw_ix s20) ?_
                  refine aw_iinc_4 C dX6_sheet_91 li_1 rfl rfl ?_
                  refine aw_goto (tgt := 71) C dX6_sheet_94 (by decide) ?_
                  cases hF
                  exact hK
            · refine aw_bipush C dX6_sheet_42 lb_m14 ?_
              obtain rfl := Option.some.inj hF
              exact aw_iret C E dX6_sheet_44 rfl rfl (bw_ret rfl)
        · refine aw_bipush C dX6_sheet_30 lb_m2 ?_
          obtain rfl := Option.some.inj hF
          exact aw_iret C E dX6_sheet_32 rfl rfl (bw_ret rfl)
def BX6_film_41 (n : Nat) (a1 : Int32) (a2 : Int32) (a3 : Int32) (u41 : (Int32 × aw_H)) : Option ((Int32 × aw_H) ⊕ (Int32 × aw_H)) :=
  (if a3 ≤ u41.1 then some (Sum.inr (a3, u41.2)) else ((FX6_sumAt n (a2 + u41.1) u41.2).bind (fun q3 => (if aw_inb (((40 : Int32) * a1) + u41.1) 160 = true then some (Sum.inl ((u41.1 + (1 : Int32)), (aw_sL u41.2 76 ((((40 : Int32) * a1) + u41.1)).toNatClampNeg q3))) else none))))
def FX6_film (n : Nat) (a1 : Int32) (a2 : Int32) (a3 : Int32) (h : aw_H) : Option (Int32 × aw_H) :=
  (if (FX6_isSheet a1) = 0 then some ((-2 : Int32), h) else (if (FX6_isTick a2) = 0 then some ((-2 : Int32), h) else (if (FX6_isIn ((a3).toInt64) (0 : Int64) (40 : Int64)) = 0 then some ((-2 : Int32), h) else ((FX6_sheet n a1 (0 : Int32) a3 h).bind (fun q1 => aw_loop (BX6_film_41 n a1 a2 a3) n ((0 : Int32), q1.2))))))
set_option maxRecDepth 100000 in
set_option maxHeartbeats 4000000 in
theorem ctX6_film (n : Nat) (a1 : Int32) (a2 : Int32) (a3 : Int32) (h : aw_H) (y : Int32 × aw_H) (hF : FX6_film n a1 a2 a3 h = some y) : Ct 7 0 0 yX6_film cX6_film 6 (some .int) [.ref 71, .int a1, .int a2, .int a3] wL wR h (aw_D (some (.int y.1)) y.2) := by
  refine Ct.of (ls0 := [.ref 71, .int a1, .int a2, .int a3, .retAddr 0, .retAddr 0]) (by decide +kernel) rfl rfl (fun X C E hnm => ?_)
  have C : aw_C X RX6 cX6_film 6 7 0 0 := C
  unfold FX6_film at hF
  refine aw_iload_1 C dX6_film_0 ?_
  refine bw_S1i C dX6_film_1 kyX6_isSheet lX6_192 ksX6_isSheet rfl rfl (ctX6_isSheet a1 h _ rfl) ?_
  refine bw_if_eq (tgt := 26) C dX6_film_4 (by decide) hF (fun hF => ?_) (fun hF => ?_)
  · refine aw_bipush C dX6_film_26 lb_m2 ?_
    obtain rfl := Option.some.inj hF
    exact aw_iret C E dX6_film_28 rfl rfl (bw_ret rfl)
  · refine aw_iload_2 C dX6_film_7 ?_
    refine bw_S1i C dX6_film_8 kyX6_isTick lX6_161 ksX6_isTick rfl rfl (ctX6_isTick a2 h _ rfl) ?_
    refine bw_if_eq (tgt := 26) C dX6_film_11 (by decide) hF (fun hF => ?_) (fun hF => ?_)
    · refine aw_bipush C dX6_film_26 lb_m2 ?_
      obtain rfl := Option.some.inj hF
      exact aw_iret C E dX6_film_28 rfl rfl (bw_ret rfl)
    · refine aw_iload_3 C dX6_film_14 ?_
      refine aw_i2l C dX6_film_15 ?_
      refine aw_lconst C dX6_film_16 ll_0 ?_
      refine aw_ldc2 C dX6_film_17 nX6_203 ?_
      refine bw_S3i C dX6_film_20 kyX6_isIn lX6_49 ksX6_isIn rfl rfl (ctX6_isIn ((a3).toInt64) (0 : Int64) (40 : Int64) h _ rfl) ?_
      refine bw_if_ne (tgt := 29) C dX6_film_23 (by decide) hF (fun hF => ?_) (fun hF => ?_)
      · refine aw_aload_0 C dX6_film_29 ?_
        refine aw_iload_1 C dX6_film_30 ?_
        refine aw_iconst C dX6_film_31 li_0 ?_
        refine aw_iload_3 C dX6_film_32 ?_
        obtain ⟨q1, e2, hF⟩ := bw_bind hF
        refine bw_V3i C dX6_film_33 kyX6_sheet lX6_205 kiX6_sheet kvX6_sheet (aw_rv C rfl rfl) rfl rfl (ctX6_sheet n a1 (0 : Int32) a3 h q1 e2) ?_
        refine aw_istore_4 C dX6_film_36 rfl rfl ?_
        refine aw_iconst C dX6_film_38 li_0 ?_
        refine aw_istore_5 C dX6_film_39 rfl rfl ?_
        refine aw_weak (show aw_le [.ref 71, .int a1, .int a2, .int a3, .retAddr 0, .int (0 : Int32)] [.ref 71, .int a1, .int a2, .int a3, .int q1.1, .int (0 : Int32)] from ⟨Or.inr rfl, Or.inr rfl, Or.inr rfl, Or.inr rfl, Or.inl rfl, Or.inr rfl, trivial⟩) ?_
        refine aw_loop_rule (fun u41 : (Int32 × aw_H) => AW X 6 41 [.ref 71, .int a1, .int a2, .int a3, .retAddr 0, .int u41.1] [] wL wR u41.2 0 0) (fun q => q = y) (fun u41 y41 hF hK => ?_) n ((0 : Int32), q1.2) _ hF rfl
        unfold BX6_film_41 at hF
        refine aw_iload_5 C dX6_film_41 ?_
        refine aw_iload_3 C dX6_film_43 ?_
        refine bw_icmp_ge (tgt := 73) C dX6_film_44 (by decide) hF (fun hF => ?_) (fun hF => ?_)
        · refine aw_iload_3 C dX6_film_73 ?_
          obtain rfl := Option.some.inj hF
          have hK : _ = y := hK
          subst hK
          exact aw_iret C E dX6_film_74 rfl rfl (bw_ret rfl)
        · refine aw_aload_0 C dX6_film_47 ?_
          refine aw_getR C dX6_film_48 fX6_24 gX6_8 rfl rfl ?_
          refine aw_bipush C dX6_film_51 lb_40 ?_
          refine aw_iload_1 C dX6_film_53 ?_
          refine aw_imul C dX6_film_54 ?_
          refine aw_iload_5 C dX6_film_55 ?_
          refine aw_iadd C dX6_film_57 ?_
          refine aw_aload_0 C dX6_film_58 ?_
          refine aw_iload_2 C dX6_film_59 ?_
          refine aw_iload_5 C dX6_film_60 ?_
          refine aw_iadd C dX6_film_62 ?_
          obtain ⟨q3, e4, hF⟩ := bw_bind hF
          refine bw_V1l C dX6_film_63 kyX6_sumAt lX6_158 kiX6_sumAt kvX6_sumAt (aw_rv C rfl rfl) rfl rfl (ctX6_sumAt n (a2 + u41.1) u41.2 q3 e4) ?_
          obtain ⟨s5, hF⟩ := bw_side hF
          refine aw_last C dX6_film_66 rfl (aw_ix s5) ?_
          refine aw_iinc_5 C dX6_film_67 li_1 rfl rfl ?_
          refine aw_goto (tgt := 41) C dX6_film_70 (by decide) ?_
          cases hF
          exact hK
      · refine aw_bipush C dX6_film_26 lb_m2 ?_
        obtain rfl := Option.some.inj hF
        exact aw_iret C E dX6_film_28 rfl rfl (bw_ret rfl)
def BX6_nearest_51 (a1 : Int32) (a2 : Int32) (u39 : (Int32 × Int32 × Int64 × Int32)) (u51 : (Int32 × Int32 × Int64 × Int32)) : Option ((Int32 × Int32 × Int64 × Int32) ⊕ ((Int32 × Int32 × Int64 × Int32) ⊕ Int32)) :=
  (if (200 : Int32) < u51.2.2.2 then some (Sum.inr (Sum.inl (u51.1, u51.2.1, u51.2.2.1, (u39.2.2.2 + (1 : Int32))))) else (if (FX6_why u39.2.2.2 u51.2.2.2) = 0 then (if u51.1 = 0 then some (Sum.inl (u39.2.2.2, u51.2.2.2, (FJ9_abs_067f4 (((u39.2.2.2).toInt64 * (a2).toInt64) - ((u51.2.2.2).toInt64 * (a1).toInt64))), (u51.2.2.2 + (1 : Int32)))) else (if 0 ≤ (lg_cmp ((FJ9_abs_067f4 (((u39.2.2.2).toInt64 * (a2).toInt64) - ((u51.2.2.2).toInt64 * (a1).toInt64))) * (u51.2.1).toInt64) (u51.2.2.1 * (u51.2.2.2).toInt64)) then some (Sum.inl (u51.1, u51.2.1, u51.2.2.1, (u51.2.2.2 + (1 : Int32)))) else some (Sum.inl (u39.2.2.2, u51.2.2.2, (FJ9_abs_067f4 (((u39.2.2.2).toInt64 * (a2).toInt64) - ((u51.2.2.2).toInt64 * (a1).toInt64))), (u51.2.2.2 + (1 : Int32)))))) else some (Sum.inl (u51.1, u51.2.1, u51.2.2.1, (u51.2.2.2 + (1 : Int32))))))
def BX6_nearest_39 (n : Nat) (a1 : Int32) (a2 : Int32) (u39 : (Int32 × Int32 × Int64 × Int32)) : Option ((Int32 × Int32 × Int64 × Int32) ⊕ Int32) :=
  (if (200 : Int32) < u39.2.2.2 then some (Sum.inr (((1000 : Int32) * u39.1) + u39.2.1)) else aw_loop (BX6_nearest_51 a1 a2 u39) n (u39.1, u39.2.1, u39.2.2.1, (8 : Int32)))
def FX6_nearest (n : Nat) (a1 : Int32) (a2 : Int32) : Option (Int32) :=
  (if (FX6_isIn ((a1).toInt64) (1 : Int64) (9999 : Int64)) = 0 then some (-2 : Int32) else (if (FX6_isIn ((a2).toInt64) (1 : Int64) (9999 : Int64)) = 0 then some (-2 : Int32) else aw_loop (BX6_nearest_39 n a1 a2) n ((0 : Int32), (0 : Int32), (0 : Int64), (8 : Int32))))
set_option maxRecDepth 100000 in
set_option maxHeartbeats 4000000 in
theorem ctX6_nearest (n : Nat) (a1 : Int32) (a2 : Int32) (h : aw_H) (y : Int32) (hF : FX6_nearest n a1 a2 = some y) : Ct 1 0 0 yX6_nearest cX6_nearest 11 (some .int) [.ref 71, .int a1, .int a2] wL wR h (aw_D (some (.int y)) h) := by
  refine Ct.of (ls0 := [.ref 71, .int a1, .int a2, .retAddr 0, .retAddr 0, .retAddr 0, .retAddr 0, .retAddr 0, .retAddr 0, .retAddr 0, .retAddr 0]) (by decide +kernel) rfl rfl (fun X C E hnm => ?_)
  have C : aw_C X RX6 cX6_nearest 11 1 0 0 := C
  unfold FX6_nearest at hF
  refine aw_iload_1 C dX6_nearest_0 ?_
  refine aw_i2l C dX6_nearest_1 ?_
  refine aw_lconst C dX6_nearest_2 ll_1 ?_
  refine aw_ldc2 C dX6_nearest_3 nX6_208 ?_
  refine bw_S3i C dX6_nearest_6 kyX6_isIn lX6_49 ksX6_isIn rfl rfl (ctX6_isIn ((a1).toInt64) (1 : Int64) (9999 : Int64) h _ rfl) ?_
  refine bw_if_eq (tgt := 24) C dX6_nearest_9 (by decide) hF (fun hF => ?_) (fun hF => ?_)
  · refine aw_bipush C dX6_nearest_24 lb_m2 ?_
    obtain rfl := Option.some.inj hF
    exact aw_iret C E dX6_nearest_26 rfl rfl (bw_ret rfl)
  · refine aw_iload_2 C dX6_nearest_12 ?_
    refine aw_i2l C dX6_nearest_13 ?_
    refine aw_lconst C dX6_nearest_14 ll_1 ?_
    refine aw_ldc2 C dX6_nearest_15 nX6_208 ?_
    refine bw_S3i C dX6_nearest_18 kyX6_isIn lX6_49 ksX6_isIn rfl rfl (ctX6_isIn ((a2).toInt64) (1 : Int64) (9999 : Int64) h _ rfl) ?_
    refine bw_if_ne (tgt := 27) C dX6_nearest_21 (by decide) hF (fun hF => ?_) (fun hF => ?_)
    · refine aw_iconst C dX6_nearest_27 li_0 ?_
      refine aw_istore_3 C dX6_nearest_28 rfl rfl ?_
      refine aw_iconst C dX6_nearest_29 li_0 ?_
      refine aw_istore_4 C dX6_nearest_30 rfl rfl ?_
      refine aw_lconst C dX6_nearest_32 ll_0 ?_
      refine aw_lstore_5 C dX6_nearest_33 rfl rfl ?_
      refine aw_bipush C dX6_nearest_35 lb_8 ?_
      refine aw_istore_7 C dX6_nearest_37 rfl rfl ?_
      refine aw_weak (show aw_le [.retAddr 0, .int a1, .int a2, .int (0 : Int32), .int (0 : Int32), .long (0 : Int64), .retAddr 0, .int (8 : Int32), .retAddr 0, .retAddr 0, .retAddr 0] [.ref 71, .int a1, .int a2, .int (0 : Int32), .int (0 : Int32), .long (0 : Int64), .retAddr 0, .int (8 : Int32), .retAddr 0, .retAddr 0, .retAddr 0] from ⟨Or.inl rfl, Or.inr rfl, Or.inr rfl, Or.inr rfl, Or.inr rfl, Or.inr rfl, Or.inr rfl, Or.inr rfl, Or.inr rfl, Or.inr rfl, Or.inr rfl, trivial⟩) ?_
      refine aw_loop_rule (fun u39 : (Int32 × Int32 × Int64 × Int32) => AW X 11 39 [.retAddr 0, .int a1, .int a2, .int u39.1, .int u39.2.1, .long u39.2.2.1, .retAddr 0, .int u39.2.2.2, .retAddr 0, .retAddr 0, .retAddr 0] [] wL wR h 0 0) (fun q => q = y) (fun u39 y39 hF hK => ?_) n ((0 : Int32), (0 : Int32), (0 : Int64), (8 : Int32)) _ hF rfl
      unfold BX6_nearest_39 at hF
      refine aw_iload_7 C dX6_nearest_39 ?_
      refine aw_sipush C dX6_nearest_41 ls_200 ?_
      refine bw_icmp_gt (tgt := 130) C dX6_nearest_44 (by decide) hF (fun hF => ?_) (fun hF => ?_)
      · refine aw_sipush C dX6_nearest_130 ls_1000 ?_
        refine aw_iload_3 C dX6_nearest_133 ?_
        refine aw_imul C dX6_nearest_134 ?_
        refine aw_iload_4 C dX6_nearest_135 ?_
        refine aw_iadd C dX6_nearest_137 ?_
        obtain rfl := Option.some.inj hF
        have hK : _ = y := hK
        subst hK
        exact aw_iret C E dX6_nearest_138 rfl rfl (bw_ret rfl)
      · refine aw_bipush C dX6_nearest_47 lb_8 ?_
        refine aw_istore_8 C dX6_nearest_49 rfl rfl ?_
        refine aw_loop_rule (fun u51 : (Int32 × Int32 × Int64 × Int32) => AW X 11 51 [.retAddr 0, .int a1, .int a2, .int u51.1, .int u51.2.1, .long u51.2.2.1, .retAddr 0, .int u39.2.2.2, .int u51.2.2.2, .retAddr 0, .retAddr 0] [] wL wR h 0 0) _ (fun u51 y51 hF hK => ?_) n (u39.1, u39.2.1, u39.2.2.1, (8 : Int32)) _ hF hK
        unfold BX6_nearest_51 at hF
        refine aw_iload_8 C dX6_nearest_51 ?_
        refine aw_sipush C dX6_nearest_53 ls_200 ?_
        refine bw_icmp_gt (tgt := 124) C dX6_nearest_56 (by decide) hF (fun hF => ?_) (fun hF => ?_)
        · refine aw_iinc_7 C dX6_nearest_124 li_1 rfl rfl ?_
          refine aw_goto (tgt := 39) C dX6_nearest_127 (by decide) ?_
          cases hF
          exact aw_weak (show aw_le [.retAddr 0, .int a1, .int a2, .int u51.1, .int u51.2.1, .long u51.2.2.1, .retAddr 0, .int (u39.2.2.2 + (1 : Int32)), .retAddr 0, .retAddr 0, .retAddr 0] [.retAddr 0, .int a1, .int a2, .int u51.1, .int u51.2.1, .long u51.2.2.1, .retAddr 0, .int (u39.2.2.2 + (1 : Int32)), .int u51.2.2.2, .retAddr 0, .retAddr 0] from ⟨Or.inr rfl, Or.inr rfl, Or.inr rfl, Or.inr rfl, Or.inr rfl, Or.inr rfl, Or.inr rfl, Or.inr rfl, Or.inl rfl, Or.inr rfl, Or.inr rfl, trivial⟩) hK
        · refine aw_iload_7 C dX6_nearest_59 ?_
          refine aw_i2l C dX6_nearest_61 ?_
          refine aw_iload_2 C dX6_nearest_62 ?_
          refine aw_i2l C dX6_nearest_63 ?_
          refine aw_lmul C dX6_nearest_64 ?_
          refine aw_iload_8 C dX6_nearest_65 ?_
          refine aw_i2l C dX6_nearest_67 ?_
          refine aw_iload_1 C dX6_nearest_68 ?_
          refine aw_i2l C dX6_nearest_69 ?_
          refine aw_lmul C dX6_nearest_70 ?_
          refine aw_lsub C dX6_nearest_71 ?_
          refine bw_abs C dX6_nearest_72 lX6_114 rfl rfl ?_
          refine aw_lstore_9 C dX6_nearest_75 rfl rfl ?_
          refine aw_iload_7 C dX6_nearest_77 ?_
          refine aw_iload_8 C dX6_nearest_79 ?_
          refine bw_S2i C dX6_nearest_81 kyX6_why lX6_101 ksX6_why rfl rfl (ctX6_why u39.2.2.2 u51.2.2.2 h _ rfl) ?_
          refine bw_if_ne (tgt := 118) C dX6_nearest_84 (by decide) hF (fun hF => ?_) (fun hF => ?_)
          · refine aw_iinc_8 C dX6_nearest_118 li_1 rfl rfl ?_
            refine aw_goto (tgt := 51) C dX6_nearest_121 (by decide) ?_
            cases hF
            exact aw_weak (show aw_le [.retAddr 0, .int a1, .int a2, .int u51.1, .int u51.2.1, .long u51.2.2.1, .retAddr 0, .int u39.2.2.2, .int (u51.2.2.2 + (1 : Int32)), .retAddr 0, .retAddr 0] [.retAddr 0, .int a1, .int a2, .int u51.1, .int u51.2.1, .long u51.2.2.1, .retAddr 0, .int u39.2.2.2, .int (u51.2.2.2 + (1 : Int32)), .long (FJ9_abs_067f4 (((u39.2.2.2).toInt64 * (a2).toInt64) - ((u51.2.2.2).toInt64 * (a1).toInt64))), .retAddr 0] from ⟨Or.inr rfl, Or.inr rfl, Or.inr rfl, Or.inr rfl, Or.inr rfl, Or.inr rfl, Or.inr rfl, Or.inr rfl, Or.inr rfl, Or.inl rfl, Or.inr rfl, trivial⟩) hK
          · refine aw_iload_3 C dX6_nearest_87 ?_
            refine bw_if_eq (tgt := 107) C dX6_nearest_88 (by decide) hF (fun hF => ?_) (fun hF => ?_)
            · refine aw_iload_7 C dX6_nearest_107 ?_
              refine aw_istore_3 C dX6_nearest_109 rfl rfl ?_
              refine aw_iload_8 C dX6_nearest_110 ?_
              refine aw_istore_4 C dX6_nearest_112 rfl rfl ?_
              refine aw_lload_9 C dX6_nearest_114 ?_
              refine aw_lstore_5 C dX6_nearest_116 rfl rfl ?_
              refine aw_iinc_8 C dX6_nearest_118 li_1 rfl rfl ?_
              refine aw_goto (tgt := 51) C dX6_nearest_121 (by decide) ?_
              cases hF
              exact aw_weak (show aw_le [.retAddr 0, .int a1, .int a2, .int u39.2.2.2, .int u51.2.2.2, .long (FJ9_abs_067f4 (((u39.2.2.2).toInt64 * (a2).toInt64) - ((u51.2.2.2).toInt64 * (a1).toInt64))), .retAddr 0, .int u39.2.2.2, .int (u51.2.2.2 + (1 : Int32)), .retAddr 0, .retAddr 0] [.retAddr 0, .int a1, .int a2, .int u39.2.2.2, .int u51.2.2.2, .long (FJ9_abs_067f4 (((u39.2.2.2).toInt64 * (a2).toInt64) - ((u51.2.2.2).toInt64 * (a1).toInt64))), .retAddr 0, .int u39.2.2.2, .int (u51.2.2.2 + (1 : Int32)), .long (FJ9_abs_067f4 (((u39.2.2.2).toInt64 * (a2).toInt64) - ((u51.2.2.2).toInt64 * (a1).toInt64))), .retAddr 0] from ⟨Or.inr rfl, Or.inr rfl, Or.inr rfl, Or.inr rfl, Or.inr rfl, Or.inr rfl, Or.inr rfl, Or.inr rfl, Or.inr rfl, Or.inl rfl, Or.inr rfl, trivial⟩) hK
            · refine aw_lload_9 C dX6_nearest_91 ?_
              refine aw_iload_4 C dX6_nearest_93 ?_
              refine aw_i2l C dX6_nearest_95 ?_
              refine aw_lmul C dX6_nearest_96 ?_
              refine aw_lload_5 C dX6_nearest_97 ?_
              refine aw_iload_8 C dX6_nearest_99 ?_
              refine aw_i2l C dX6_nearest_101 ?_
              refine aw_lmul C dX6_nearest_102 ?_
              refine aw_lcmp C dX6_nearest_103 ?_
              refine bw_if_ge (tgt := 118) C dX6_nearest_104 (by decide) hF (fun hF => ?_) (fun hF => ?_)
              · refine aw_iinc_8 C dX6_nearest_118 li_1 rfl rfl ?_
                refine aw_goto (tgt := 51) C dX6_nearest_121 (by decide) ?_
                cases hF
                exact aw_weak (show aw_le [.retAddr 0, .int a1, .int a2, .int u51.1, .int u51.2.1, .long u51.2.2.1, .retAddr 0, .int u39.2.2.2, .int (u51.2.2.2 + (1 : Int32)), .retAddr 0, .retAddr 0] [.retAddr 0, .int a1, .int a2, .int u51.1, .int u51.2.1, .long u51.2.2.1, .retAddr 0, .int u39.2.2.2, .int (u51.2.2.2 + (1 : Int32)), .long (FJ9_abs_067f4 (((u39.2.2.2).toInt64 * (a2).toInt64) - ((u51.2.2.2).toInt64 * (a1).toInt64))), .retAddr 0] from ⟨Or.inr rfl, Or.inr rfl, Or.inr rfl, Or.inr rfl, Or.inr rfl, Or.inr rfl, Or.inr rfl, Or.inr rfl, Or.inr rfl, Or.inl rfl, Or.inr rfl, trivial⟩) hK
              · refine aw_iload_7 C dX6_nearest_107 ?_
                refine aw_istore_3 C dX6_nearest_109 rfl rfl ?_
                refine aw_iload_8 C dX6_nearest_110 ?_
                refine aw_istore_4 C dX6_nearest_112 rfl rfl ?_
                refine aw_lload_9 C dX6_nearest_114 ?_
                refine aw_lstore_5 C dX6_nearest_116 rfl rfl ?_
                refine aw_iinc_8 C dX6_nearest_118 li_1 rfl rfl ?_
                refine aw_goto (tgt := 51) C dX6_nearest_121 (by decide) ?_
                cases hF
                exact aw_weak (show aw_le [.retAddr 0, .int a1, .int a2, .int u39.2.2.2, .int u51.2.2.2, .long (FJ9_abs_067f4 (((u39.2.2.2).toInt64 * (a2).toInt64) - ((u51.2.2.2).toInt64 * (a1).toInt64))), .retAddr 0, .int u39.2.2.2, .int (u51.2.2.2 + (1 : Int32)), .retAddr 0, .retAddr 0] [.retAddr 0, .int a1, .int a2, .int u39.2.2.2, .int u51.2.2.2, .long (FJ9_abs_067f4 (((u39.2.2.2).toInt64 * (a2).toInt64) - ((u51.2.2.2).toInt64 * (a1).toInt64))), .retAddr 0, .int u39.2.2.2, .int (u51.2.2.2 + (1 : Int32)), .long (FJ9_abs_067f4 (((u39.2.2.2).toInt64 * (a2).toInt64) - ((u51.2.2.2).toInt64 * (a1).toInt64))), .retAddr 0] from ⟨Or.inr rfl, Or.inr rfl, Or.inr rfl, Or.inr rfl, Or.inr rfl, Or.inr rfl, Or.inr rfl, Or.inr rfl, Or.inr rfl, Or.inl rfl, Or.inr rfl, trivial⟩) hK
    · refine aw_bipush C dX6_nearest_24 lb_m2 ?_
      obtain rfl := Option.some.inj hF
      exact aw_iret C E dX6_nearest_26 rfl rfl (bw_ret rfl)
def FX6_off (n : Nat) (a1 : Int32) (a2 : Int32) (a3 : Int32) (a4 : Int32) (h : aw_H) : Option (Int64) :=
  (if (FX6_isPart a1 h) = 0 then some (-9223372036854775808 : Int64) else (if (FX6_isIn (((a2 / (10000 : Int32))).toInt64) (1 : Int64) (9999 : Int64)) = 0 then some (-9223372036854775808 : Int64) else (if (FX6_isIn (((a2 - (a2 / (10000 : Int32)) * (10000 : Int32))).toInt64) (1 : Int64) (9999 : Int64)) = 0 then some (-9223372036854775808 : Int64) else (if (FX6_isIn ((a3).toInt64) (0 : Int64) (9999 : Int64)) = 0 then some (-9223372036854775808 : Int64) else (if (FX6_isLine a4) = 0 then some (-9223372036854775808 : Int64) else ((FX6_speedAbove n a1 h).bind (fun q1 => ((FX6_speedBelow n a1 h).bind (fun q3 => ((FX6_lowest n q1 q3 (0 : Int32)).bind (fun q5 => ((FX6_speedAbove n a1 h).bind (fun q7 => ((FX6_speedBelow n a1 h).bind (fun q9 => ((FX6_lowest n q7 q9 (1 : Int32)).bind (fun q11 => ((FX6_lowest n (((q5 * ((a2 - (a2 / (10000 : Int32)) * (10000 : Int32))).toInt64) - (((a2 / (10000 : Int32))).toInt64 * q11)) * (a3).toInt64) (q11 * ((a2 - (a2 / (10000 : Int32)) * (10000 : Int32))).toInt64) a4).bind (fun q13 => some q13)))))))))))))))))))
set_option maxRecDepth 100000 in
set_option maxHeartbeats 4000000 in
theorem ctX6_off (n : Nat) (a1 : Int32) (a2 : Int32) (a3 : Int32) (a4 : Int32) (h : aw_H) (y : Int64) (hF : FX6_off n a1 a2 a3 a4 h = some y) : Ct 3 0 0 yX6_off cX6_off 11 (some .long) [.ref 71, .int a1, .int a2, .int a3, .int a4] wL wR h (aw_D (some (.long y)) h) := by
  refine Ct.of (ls0 := [.ref 71, .int a1, .int a2, .int a3, .int a4, .retAddr 0, .retAddr 0, .retAddr 0, .retAddr 0, .retAddr 0, .retAddr 0]) (by decide +kernel) rfl rfl (fun X C E hnm => ?_)
  have C : aw_C X RX6 cX6_off 11 3 0 0 := C
  unfold FX6_off at hF
  refine aw_iload_2 C dX6_off_0 ?_
  refine aw_sipush C dX6_off_1 ls_10000 ?_
  refine aw_idiv C dX6_off_4 (by decide) ?_
  refine aw_istore_5 C dX6_off_5 rfl rfl ?_
  refine aw_iload_2 C dX6_off_7 ?_
  refine aw_sipush C dX6_off_8 ls_10000 ?_
  refine aw_irem C dX6_off_11 (by decide) ?_
  refine aw_istore_6 C dX6_off_12 rfl rfl ?_
  refine aw_aload_0 C dX6_off_14 ?_
  refine aw_iload_1 C dX6_off_15 ?_
  refine bw_V1i C dX6_off_16 kyX6_isPart lX6_69 kiX6_isPart kvX6_isPart (aw_rv C rfl rfl) rfl rfl (ctX6_isPart a1 h _ rfl) ?_
  refine bw_if_eq (tgt := 68) C dX6_off_19 (by decide) hF (fun hF => ?_) (fun hF => ?_)
  · refine aw_ldc2 C dX6_off_68 nX6_136 ?_
    obtain rfl := Option.some.inj hF
    exact aw_lret C E dX6_off_71 rfl rfl (bw_ret rfl)
  · refine aw_iload_5 C dX6_off_22 ?_
    refine aw_i2l C dX6_off_24 ?_
    refine aw_lconst C dX6_off_25 ll_1 ?_
    refine aw_ldc2 C dX6_off_26 nX6_208 ?_
    refine bw_S3i C dX6_off_29 kyX6_isIn lX6_49 ksX6_isIn rfl rfl (ctX6_isIn (((a2 / (10000 : Int32))).toInt64) (1 : Int64) (9999 : Int64) h _ rfl) ?_
    refine bw_if_eq (tgt := 68) C dX6_off_32 (by decide) hF (fun hF => ?_) (fun hF => ?_)
    · refine aw_ldc2 C dX6_off_68 nX6_136 ?_
      obtain rfl := Option.some.inj hF
      exact aw_lret C E dX6_off_71 rfl rfl (bw_ret rfl)
    · refine aw_iload_6 C dX6_off_35 ?_
      refine aw_i2l C dX6_off_37 ?_
      refine aw_lconst C dX6_off_38 ll_1 ?_
      refine aw_ldc2 C dX6_off_39 nX6_208 ?_
      refine bw_S3i C dX6_off_42 kyX6_isIn lX6_49 ksX6_isIn rfl rfl (ctX6_isIn (((a2 - (a2 / (10000 : Int32)) * (10000 : Int32))).toInt64) (1 : Int64) (9999 : Int64) h _ rfl) ?_
      refine bw_if_eq (tgt := 68) C dX6_off_45 (by decide) hF (fun hF => ?_) (fun hF => ?_)
      · refine aw_ldc2 C dX6_off_68 nX6_136 ?_
        obtain rfl := Option.some.inj hF
        exact aw_lret C E dX6_off_71 rfl rfl (bw_ret rfl)
      · refine aw_iload_3 C dX6_off_48 ?_
        refine aw_i2l C dX6_off_49 ?_
        refine aw_lconst C dX6_off_50 ll_0 ?_
        refine aw_ldc2 C dX6_off_51 nX6_208 ?_
        refine bw_S3i C dX6_off_54 kyX6_isIn lX6_49 ksX6_isIn rfl rfl (ctX6_isIn ((a3).toInt64) (0 : Int64) (9999 : Int64) h _ rfl) ?_
        refine bw_if_eq (tgt := 68) C dX6_off_57 (by decide) hF (fun hF => ?_) (fun hF => ?_)
        · refine aw_ldc2 C dX6_off_68 nX6_136 ?_
          obtain rfl := Option.some.inj hF
          exact aw_lret C E dX6_off_71 rfl rfl (bw_ret rfl)
        · refine aw_iload_4 C dX6_off_60 ?_
          refine bw_S1i C dX6_off_62 kyX6_isLine lX6_122 ksX6_isLine rfl rfl (ctX6_isLine a4 h _ rfl) ?_
          refine bw_if_ne (tgt := 72) C dX6_off_65 (by decide) hF (fun hF => ?_) (fun hF => ?_)
          · refine aw_aload_0 C dX6_off_72 ?_
            refine aw_iload_1 C dX6_off_73 ?_
            obtain ⟨q1, e2, hF⟩ := bw_bind hF
            refine bw_V1l C dX6_off_74 kyX6_speedAbove lX6_125 kiX6_speedAbove kvX6_speedAbove (aw_rv C rfl rfl) rfl rfl (ctX6_speedAbove n a1 h q1 e2) ?_
            refine aw_aload_0 C dX6_off_77 ?_
            refine aw_iload_1 C dX6_off_78 ?_
            obtain ⟨q3, e4, hF⟩ := bw_bind hF
            refine bw_V1l C dX6_off_79 kyX6_speedBelow lX6_129 kiX6_speedBelow kvX6_speedBelow (aw_rv C rfl rfl) rfl rfl (ctX6_speedBelow n a1 h q3 e4) ?_
            refine aw_iconst C dX6_off_82 li_0 ?_
            obtain ⟨q5, e6, hF⟩ := bw_bind hF
            refine bw_S3l C dX6_off_83 kyX6_lowest lX6_132 ksX6_lowest rfl rfl (ctX6_lowest n q1 q3 (0 : Int32) h q5 e6) ?_
            refine aw_lstore_7 C dX6_off_86 rfl rfl ?_
            refine aw_aload_0 C dX6_off_88 ?_
            refine aw_iload_1 C dX6_off_89 ?_
            obtain ⟨q7, e8, hF⟩ := bw_bind hF
            refine bw_V1l C dX6_off_90 kyX6_speedAbove lX6_125 kiX6_speedAbove kvX6_speedAbove (aw_rv C rfl rfl) rfl rfl (ctX6_speedAbove n a1 h q7 e8) ?_
            refine aw_aload_0 C dX6_off_93 ?_
            refine aw_iload_1 C dX6_off_94 ?_
            obtain ⟨q9, e10, hF⟩ := bw_bind hF
            refine bw_V1l C dX6_off_95 kyX6_speedBelow lX6_129 kiX6_speedBelow kvX6_speedBelow (aw_rv C rfl rfl) rfl rfl (ctX6_speedBelow n a1 h q9 e10) ?_
            refine aw_iconst C dX6_off_98 li_1 ?_
            obtain ⟨q11, e12, hF⟩ := bw_bind hF
            refine bw_S3l C dX6_off_99 kyX6_lowest lX6_132 ksX6_lowest rfl rfl (ctX6_lowest n q7 q9 (1 : Int32) h q11 e12) ?_
            refine aw_lstore_9 C dX6_off_102 rfl rfl ?_
            refine aw_lload_7 C dX6_off_104 ?_
            refine aw_iload_6 C dX6_off_106 ?_
            refine aw_i2l C dX6_off_108 ?_
            refine aw_lmul C dX6_off_109 ?_
            refine aw_iload_5 C dX6_off_110 ?_
            refine aw_i2l C dX6_off_112 ?_
            refine aw_lload_9 C dX6_off_113 ?_
            refine aw_lmul C dX6_off_115 ?_
            refine aw_lsub C dX6_off_116 ?_
            refine aw_iload_3 C dX6_off_117 ?_
            refine aw_i2l C dX6_off_118 ?_
            refine aw_lmul C dX6_off_119 ?_
            refine aw_lload_9 C dX6_off_120 ?_
            refine aw_iload_6 C dX6_off_122 ?_
            refine aw_i2l C dX6_off_124 ?_
            refine aw_lmul C dX6_off_125 ?_
            refine aw_iload_4 C dX6_off_126 ?_
            obtain ⟨q13, e14, hF⟩ := bw_bind hF
            refine bw_S3l C dX6_off_128 kyX6_lowest lX6_132 ksX6_lowest rfl rfl (ctX6_lowest n (((q5 * ((a2 - (a2 / (10000 : Int32)) * (10000 : Int32))).toInt64) - (((a2 / (10000 : Int32))).toInt64 * q11)) * (a3).toInt64) (q11 * ((a2 - (a2 / (10000 : Int32)) * (10000 : Int32))).toInt64) a4 h q13 e14) ?_
            obtain rfl := Option.some.inj hF
            exact aw_lret C E dX6_off_131 rfl rfl (bw_ret rfl)
          · refine aw_ldc2 C dX6_off_68 nX6_136 ?_
            obtain rfl := Option.some.inj hF
            exact aw_lret C E dX6_off_71 rfl rfl (bw_ret rfl)

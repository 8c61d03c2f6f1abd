def BX6_goes_7 (n : Nat) (a1 : Int32) (u7 : (Int32 × aw_H)) : Option ((Int32 × aw_H) ⊕ (Int32 × aw_H)) :=
  ((FX6_clause n u7.2).bind (fun q1 => (if q1.1 = (-1 : Int32) then some (Sum.inr (((-1 : Int32) - (q1.2.1 71 13)), q1.2)) else (if a1 = 0 then (if (q1.2.1 71 13) = (q1.2.1 71 12) then some (Sum.inr ((u7.1 + (0 : Int32)), q1.2)) else ((FX6_byteAt (q1.2.1 71 13) q1.2).bind (fun q3 => (if q3 = (59 : Int32) then some (Sum.inl ((u7.1 + (0 : Int32)), (aw_sI q1.2 71 13 ((q1.2.1 71 13) + (1 : Int32))))) else some (Sum.inr (((-1 : Int32) - (q1.2.1 71 13)), q1.2)))))) else ((FX6_isDone q1.1 q1.2).bind (fun q5 => (if q5.1 = 0 then (if (q5.2.1 71 13) = (q5.2.1 71 12) then some (Sum.inr ((u7.1 + (0 : Int32)), q5.2)) else ((FX6_byteAt (q5.2.1 71 13) q5.2).bind (fun q7 => (if q7 = (59 : Int32) then some (Sum.inl ((u7.1 + (0 : Int32)), (aw_sI q5.2 71 13 ((q5.2.1 71 13) + (1 : Int32))))) else some (Sum.inr (((-1 : Int32) - (q5.2.1 71 13)), q5.2)))))) else (if (q5.2.1 71 13) = (q5.2.1 71 12) then some (Sum.inr ((u7.1 + (1 : Int32)), q5.2)) else ((FX6_byteAt (q5.2.1 71 13) q5.2).bind (fun q9 => (if q9 = (59 : Int32) then some (Sum.inl ((u7.1 + (1 : Int32)), (aw_sI q5.2 71 13 ((q5.2.1 71 13) + (1 : Int32))))) else some (Sum.inr (((-1 : Int32) - (q5.2.1 71 13)), q5.2)))))))))))))
def FX6_goes (n : Nat) (a1 : Int32) (h : aw_H) : Option (Int32 × aw_H) :=
  aw_loop (BX6_goes_7 n a1) n ((0 : Int32), (aw_sI h 71 13 (0 : Int32)))
set_option maxRecDepth 100000 in
set_option maxHeartbeats 4000000 in
theorem ctX6_goes (n : Nat) (a1 : Int32) (h : aw_H) (y : Int32 × aw_H) (hF : FX6_goes n a1 h = some y) : Ct 6 0 0 yX6_goes cX6_goes 4 (some .int) [.ref 71, .int a1] wL wR h (aw_D (some (.int y.1)) y.2) := by
  refine Ct.of (ls0 := [.ref 71, .int a1, .retAddr 0, .retAddr 0]) (by decide +kernel) rfl rfl (fun X C E hnm => ?_)
  have C : aw_C X RX6 cX6_goes 4 6 0 0 := C
  unfold FX6_goes at hF
  refine aw_aload_0 C dX6_goes_0 ?_
  refine aw_iconst C dX6_goes_1 li_0 ?_
  refine aw_putI C dX6_goes_2 fX6_228 gX6_13 rfl ?_
  refine aw_iconst C dX6_goes_5 li_0 ?_
  refine aw_istore_2 C dX6_goes_6 rfl rfl ?_
  refine aw_loop_rule (fun u7 : (Int32 × aw_H) => AW X 4 7 [.ref 71, .int a1, .int u7.1, .retAddr 0] [] wL wR u7.2 0 0) (fun q => q = y) (fun u7 y7 hF hK => ?_) n ((0 : Int32), (aw_sI h 71 13 (0 : Int32))) _ hF rfl
  unfold BX6_goes_7 at hF
  refine aw_aload_0 C dX6_goes_7 ?_
  obtain ⟨q1, e2, hF⟩ := bw_bind hF
  refine bw_V0i C dX6_goes_8 kyX6_clause lX6_277 kiX6_clause kvX6_clause (aw_rv C rfl rfl) rfl rfl (ctX6_clause n u7.2 q1 e2) ?_
  refine aw_istore_3 C dX6_goes_11 rfl rfl ?_
  refine aw_iload_3 C dX6_goes_12 ?_
  refine aw_iconst C dX6_goes_13 li_m1 ?_
  refine bw_icmp_ne (tgt := 24) C dX6_goes_14 (by decide) hF (fun hF => ?_) (fun hF => ?_)
  · refine aw_iload_2 C dX6_goes_24 ?_
    refine aw_iload_1 C dX6_goes_25 ?_
    refine bw_if_eq (tgt := 41) C dX6_goes_26 (by decide) hF (fun hF => ?_) (fun hF => ?_)
    · refine aw_iconst C dX6_goes_41 li_0 ?_
      refine aw_iadd C dX6_goes_42 ?_
      refine aw_istore_2 C dX6_goes_43 rfl rfl ?_
      refine aw_aload_0 C dX6_goes_44 ?_
      refine aw_getI C dX6_goes_45 fX6_228 gX6_13 rfl ?_
      refine aw_aload_0 C dX6_goes_48 ?_
      refine aw_getI C dX6_goes_49 fX6_225 gX6_12 rfl ?_
      refine bw_icmp_ne (tgt := 57) C dX6_goes_52 (by decide) hF (fun hF => ?_) (fun hF => ?_)
      · refine aw_aload_0 C dX6_goes_57 ?_
        refine aw_aload_0 C dX6_goes_58 ?_
        refine aw_getI C dX6_goes_59 fX6_228 gX6_13 rfl ?_
        obtain ⟨q3, e4, hF⟩ := bw_bind hF
        refine bw_V1i C dX6_goes_62 kyX6_byteAt lX6_231 kiX6_byteAt kvX6_byteAt (aw_rv C rfl rfl) rfl rfl (ctX6_byteAt (q1.2.1 71 13) q1.2 q3 e4) ?_
        refine aw_bipush C dX6_goes_65 lb_59 ?_
        refine bw_icmp_eq (tgt := 77) C dX6_goes_67 (by decide) hF (fun hF => ?_) (fun hF => ?_)
        · refine aw_aload_0 C dX6_goes_77 ?_
          refine aw_dup C dX6_goes_78 rfl ?_
          refine aw_getI C dX6_goes_79 fX6_228 gX6_13 rfl ?_
          refine aw_iconst C dX6_goes_82 li_1 ?_
          refine aw_iadd C dX6_goes_83 ?_
          refine aw_putI C dX6_goes_84 fX6_228 gX6_13 rfl ?_
          refine aw_goto (tgt := 7) C dX6_goes_87 (by decide) ?_
          cases hF
          exact aw_weak (show aw_le [.ref 71, .int a1, .int (u7.1 + (0 : Int32)), .retAddr 0] [.ref 71, .int a1, .int (u7.1 + (0 : Int32)), .int q1.1] from ⟨Or.inr rfl, Or.inr rfl, Or.inr rfl, Or.inl rfl, trivial⟩) hK
        · refine aw_iconst C dX6_goes_70 li_m1 ?_
          refine aw_aload_0 C dX6_goes_71 ?_
          refine aw_getI C dX6_goes_72 fX6_228 gX6_13 rfl ?_
          refine aw_isub C dX6_goes_75 ?_
          obtain rfl := Option.some.inj hF
          have hK : _ = y := hK
          subst hK
          exact aw_iret C E dX6_goes_76 rfl rfl (bw_ret rfl)
      · refine aw_iload_2 C dX6_goes_55 ?_
        obtain rfl := Option.some.inj hF
        have hK : _ = y := hK
        subst hK
        exact aw_iret C E dX6_goes_56 rfl rfl (bw_ret rfl)
    · refine aw_aload_0 C dX6_goes_29 ?_
      refine aw_iload_3 C dX6_goes_30 ?_
      obtain ⟨q5, e6, hF⟩ := bw_bind hF
      refine bw_V1i C dX6_goes_31 kyX6_isDone lX6_280 kiX6_isDone kvX6_isDone (aw_rv C rfl rfl) rfl rfl (ctX6_isDone q1.1 q1.2 q5 e6) ?_
      refine bw_if_eq (tgt := 41) C dX6_goes_34 (by decide) hF (fun hF => ?_) (fun hF => ?_)
      · refine aw_iconst C dX6_goes_41 li_0 ?_
        refine aw_iadd C dX6_goes_42 ?_
        refine aw_istore_2 C dX6_goes_43 rfl rfl ?_
        refine aw_aload_0 C dX6_goes_44 ?_
        refine aw_getI C dX6_goes_45 fX6_228 gX6_13 rfl ?_
        refine aw_aload_0 C dX6_goes_48 ?_
        refine aw_getI C dX6_goes_49 fX6_225 gX6_12 rfl ?_
        refine bw_icmp_ne (tgt := 57) C dX6_goes_52 (by decide) hF (fun hF => ?_) (fun hF => ?_)
        · refine aw_aload_0 C dX6_goes_57 ?_
          refine aw_aload_0 C dX6_goes_58 ?_
          refine aw_getI C dX6_goes_59 fX6_228 gX6_13 rfl ?_
          obtain ⟨q7, e8, hF⟩ := bw_bind hF
          refine bw_V1i C dX6_goes_62 kyX6_byteAt lX6_231 kiX6_byteAt kvX6_byteAt (aw_rv C rfl rfl) rfl rfl (ctX6_byteAt (q5.2.1 71 13) q5.2 q7 e8) ?_
          refine aw_bipush C dX6_goes_65 lb_59 ?_
          refine bw_icmp_eq (tgt := 77) C dX6_goes_67 (by decide) hF (fun hF => ?_) (fun hF => ?_)
          · refine aw_aload_0 C dX6_goes_77 ?_
            refine aw_dup C dX6_goes_78 rfl ?_
            refine aw_getI C dX6_goes_79 fX6_228 gX6_13 rfl ?_
            refine aw_iconst C dX6_goes_82 li_1 ?_
            refine aw_iadd C dX6_goes_83 ?_
            refine aw_putI C dX6_goes_84 fX6_228 gX6_13 rfl ?_
            refine aw_goto (tgt := 7) C dX6_goes_87 (by decide) ?_
            cases hF
            exact aw_weak (show aw_le [.ref 71, .int a1, .int (u7.1 + (0 : Int32)), .retAddr 0] [.ref 71, .int a1, .int (u7.1 + (0 : Int32)), .int q1.1] from ⟨Or.inr rfl, Or.inr rfl, Or.inr rfl, Or.inl rfl, trivial⟩) hK
          · refine aw_iconst C dX6_goes_70 li_m1 ?_
            refine aw_aload_0 C dX6_goes_71 ?_
            refine aw_getI C dX6_goes_72 fX6_228 gX6_13 rfl ?_
            refine aw_isub C dX6_goes_75 ?_
            obtain rfl := Option.some.inj hF
            have hK : _ = y := hK
            subst hK
            exact aw_iret C E dX6_goes_76 rfl rfl (bw_ret rfl)
        · refine aw_iload_2 C dX6_goes_55 ?_
          obtain rfl := Option.some.inj hF
          have hK : _ = y := hK
          subst hK
          exact aw_iret C E dX6_goes_56 rfl rfl (bw_ret rfl)
      · refine aw_iconst C dX6_goes_37 li_1 ?_
        refine aw_goto (tgt := 42) C dX6_goes_38 (by decide) ?_
        refine aw_iadd C dX6_goes_42 ?_
        refine aw_istore_2 C dX6_goes_43 rfl rfl ?_
        refine aw_aload_0 C dX6_goes_44 ?_
        refine aw_getI C dX6_goes_45 fX6_228 gX6_13 rfl ?_
        refine aw_aload_0 C dX6_goes_48 ?_
        refine aw_getI C dX6_goes_49 fX6_225 gX6_12 rfl ?_
        refine bw_icmp_ne (tgt := 57) C dX6_goes_52 (by decide) hF (fun hF => ?_) (fun hF => ?_)
        · refine aw_aload_0 C dX6_goes_57 ?_
          refine aw_aload_0 C dX6_goes_58 ?_
          refine aw_getI C dX6_goes_59 fX6_228 gX6_13 rfl ?_
          obtain ⟨q9, e10, hF⟩ := bw_bind hF
          refine bw_V1i C dX6_goes_62 kyX6_byteAt lX6_231 kiX6_byteAt kvX6_byteAt (aw_rv C rfl rfl) rfl rfl (ctX6_byteAt (q5.2.1 71 13) q5.2 q9 e10) ?_
          refine aw_bipush C dX6_goes_65 lb_59 ?_
          refine bw_icmp_eq (tgt := 77) C dX6_goes_67 (by decide) hF (fun hF => ?_) (fun hF => ?_)
          · refine aw_aload_0 C dX6_goes_77 ?_
            refine aw_dup C dX6_goes_78 rfl ?_
            refine aw_getI C dX6_goes_79 fX6_228 gX6_13 rfl ?_
            refine aw_iconst C dX6_goes_82 li_1 ?_
            refine aw_iadd C dX6_goes_83 ?_
            refine aw_putI C dX6_goes_84 fX6_228 gX6_13 rfl ?_
            refine aw_goto (tgt := 7) C dX6_goes_87 (by decide) ?_
            cases hF
            exact aw_weak (show aw_le [.ref 71, .int a1, .int (u7.1 + (1 : Int32)), .retAddr 0] [.ref 71, .int a1, .int (u7.1 + (1 : Int32)), .int q1.1] from ⟨Or.inr rfl, Or.inr rfl, Or.inr rfl, Or.inl rfl, trivial⟩) hK
          · refine aw_iconst C dX6_goes_70 li_m1 ?_
            refine aw_aload_0 C dX6_goes_71 ?_
            refine aw_getI C dX6_goes_72 fX6_228 gX6_13 rfl ?_
            refine aw_isub C dX6_goes_75 ?_
            obtain rfl := Option.some.inj hF
            have hK : _ = y := hK
            subst hK
            exact aw_iret C E dX6_goes_76 rfl rfl (bw_ret rfl)
        · refine aw_iload_2 C dX6_goes_55 ?_
          obtain rfl := Option.some.inj hF
          have hK : _ = y := hK
          subst hK
          exact aw_iret C E dX6_goes_56 rfl rfl (bw_ret rfl)
  · refine aw_iconst C dX6_goes_17 li_m1 ?_
    refine aw_aload_0 C dX6_goes_18 ?_
    refine aw_getI C dX6_goes_19 fX6_228 gX6_13 rfl ?_
    refine aw_isub C dX6_goes_22 ?_
    obtain rfl := Option.some.inj hF
    have hK : _ = y := hK
    subst hK
    exact aw_iret C E dX6_goes_23 rfl rfl (bw_ret rfl)
def FX6_text (n : Nat) (h : aw_H) : Option (Int32 × aw_H) :=
  ((FX6_goes n (0 : Int32) h).bind (fun q1 => (if 0 ≤ q1.1 then ((FX6_goes n (1 : Int32) q1.2).bind (fun q3 => some (q3.1, (aw_sI q3.2 71 12 (0 : Int32))))) else some ((((-100 : Int32) + q1.1) + (1 : Int32)), (aw_sI q1.2 71 12 (0 : Int32))))))
set_option maxRecDepth 100000 in
set_option maxHeartbeats 4000000 in
theorem ctX6_text (n : Nat) (h : aw_H) (y : Int32 × aw_H) (hF : FX6_text n h = some y) : Ct 7 0 0 yX6_text cX6_text 2 (some .int) [.ref 71] wL wR h (aw_D (some (.int y.1)) y.2) := by
  refine Ct.of (ls0 := [.ref 71, .retAddr 0]) (by decide +kernel) rfl rfl (fun X C E hnm => ?_)
  have C : aw_C X RX6 cX6_text 2 7 0 0 := C
  unfold FX6_text at hF
  refine aw_aload_0 C dX6_text_0 ?_
  refine aw_iconst C dX6_text_1 li_0 ?_
  obtain ⟨q1, e2, hF⟩ := bw_bind hF
  refine bw_V1i C dX6_text_2 kyX6_goes lX6_283 kiX6_goes kvX6_goes (aw_rv C rfl rfl) rfl rfl (ctX6_goes n (0 : Int32) h q1 e2) ?_
  refine aw_istore_1 C dX6_text_5 rfl rfl ?_
  refine aw_iload_1 C dX6_text_6 ?_
  refine bw_if_ge (tgt := 19) C dX6_text_7 (by decide) hF (fun hF => ?_) (fun hF => ?_)
  · refine aw_aload_0 C dX6_text_19 ?_
    refine aw_iconst C dX6_text_20 li_1 ?_
    obtain ⟨q3, e4, hF⟩ := bw_bind hF
    refine bw_V1i C dX6_text_21 kyX6_goes lX6_283 kiX6_goes kvX6_goes (aw_rv C rfl rfl) rfl rfl (ctX6_goes n (1 : Int32) q1.2 q3 e4) ?_
    refine aw_istore_1 C dX6_text_24 rfl rfl ?_
    refine aw_aload_0 C dX6_text_25 ?_
    refine aw_iconst C dX6_text_26 li_0 ?_
    refine aw_putI C dX6_text_27 fX6_225 gX6_12 rfl ?_
    refine aw_iload_1 C dX6_text_30 ?_
    obtain rfl := Option.some.inj hF
    exact aw_iret C E dX6_text_31 rfl rfl (bw_ret rfl)
  · refine aw_bipush C dX6_text_10 lb_m100 ?_
    refine aw_iload_1 C dX6_text_12 ?_
    refine aw_iadd C dX6_text_13 ?_
    refine aw_iconst C dX6_text_14 li_1 ?_
    refine aw_iadd C dX6_text_15 ?_
    refine aw_goto (tgt := 24) C dX6_text_16 (by decide) ?_
    refine aw_istore_1 C dX6_text_24 rfl rfl ?_
    refine aw_aload_0 C dX6_text_25 ?_
    refine aw_iconst C dX6_text_26 li_0 ?_
    refine aw_putI C dX6_text_27 fX6_225 gX6_12 rfl ?_
    refine aw_iload_1 C dX6_text_30 ?_
    obtain rfl := Option.some.inj hF
    exact aw_iret C E dX6_text_31 rfl rfl (bw_ret rfl)
def FX6_image (h : aw_H) : Option (Int32 × aw_H) :=
  some (((aw_sI (aw_cI h 72 73 ((0 : Int32)).toNatClampNeg ((0 : Int32)).toNatClampNeg ((69 : Int32)).toNatClampNeg) 71 2 (1 : Int32)).1 72 66), (aw_sI (aw_cI h 72 73 ((0 : Int32)).toNatClampNeg ((0 : Int32)).toNatClampNeg ((69 : Int32)).toNatClampNeg) 71 2 (1 : Int32)))
set_option maxRecDepth 100000 in
set_option maxHeartbeats 4000000 in
theorem ctX6_image (h : aw_H) (y : Int32 × aw_H) (hF : FX6_image h = some y) : Ct 1 0 0 yX6_image cX6_image 1 (some .int) [.ref 71] wL wR h (aw_D (some (.int y.1)) y.2) := by
  refine Ct.of (ls0 := [.ref 71]) (by decide +kernel) rfl rfl (fun X C E hnm => ?_)
  have C : aw_C X RX6 cX6_image 1 1 0 0 := C
  unfold FX6_image at hF
  refine aw_aload_0 C dX6_image_0 ?_
  refine aw_getR C dX6_image_1 fX6_11 gX6_0 rfl rfl ?_
  refine aw_iconst C dX6_image_4 li_0 ?_
  refine aw_aload_0 C dX6_image_5 ?_
  refine aw_getR C dX6_image_6 fX6_15 gX6_1 rfl rfl ?_
  refine aw_iconst C dX6_image_9 li_0 ?_
  refine aw_bipush C dX6_image_10 lb_69 ?_
  refine bw_copy_int C dX6_image_12 lX6_287 rfl rfl rfl rfl (by decide) ?_
  refine aw_aload_0 C dX6_image_15 ?_
  refine aw_iconst C dX6_image_16 li_1 ?_
  refine aw_putZ (Or.inr rfl) C dX6_image_17 fX6_293 gX6_2 rfl ?_
  refine aw_aload_0 C dX6_image_20 ?_
  refine aw_getR C dX6_image_21 fX6_11 gX6_0 rfl rfl ?_
  refine aw_bipush C dX6_image_24 lb_66 ?_
  refine aw_iald C dX6_image_26 rfl (aw_ixk (k := 66) (n := 69) rfl rfl) ?_
  obtain rfl := Option.some.inj hF
  exact aw_iret C E dX6_image_27 rfl rfl (bw_ret rfl)
def FX6_back (h : aw_H) : Option (Int32 × aw_H) :=
  (if (h.1 71 2) = 0 then some ((-3 : Int32), h) else some (((aw_cI h 73 72 ((0 : Int32)).toNatClampNeg ((0 : Int32)).toNatClampNeg ((69 : Int32)).toNatClampNeg).1 72 66), (aw_cI h 73 72 ((0 : Int32)).toNatClampNeg ((0 : Int32)).toNatClampNeg ((69 : Int32)).toNatClampNeg)))
set_option maxRecDepth 100000 in
set_option maxHeartbeats 4000000 in
theorem ctX6_back (h : aw_H) (y : Int32 × aw_H) (hF : FX6_back h = some y) : Ct 1 0 0 yX6_back cX6_back 1 (some .int) [.ref 71] wL wR h (aw_D (some (.int y.1)) y.2) := by
  refine Ct.of (ls0 := [.ref 71]) (by decide +kernel) rfl rfl (fun X C E hnm => ?_)
  have C : aw_C X RX6 cX6_back 1 1 0 0 := C
  unfold FX6_back at hF
  refine aw_aload_0 C dX6_back_0 ?_
  refine aw_getZ C dX6_back_1 fX6_293 gX6_2 rfl ?_
  refine bw_if_ne (tgt := 10) C dX6_back_4 (by decide) hF (fun hF => ?_) (fun hF => ?_)
  · refine aw_aload_0 C dX6_back_10 ?_
    refine aw_getR C dX6_back_11 fX6_15 gX6_1 rfl rfl ?_
    refine aw_iconst C dX6_back_14 li_0 ?_
    refine aw_aload_0 C dX6_back_15 ?_
    refine aw_getR C dX6_back_16 fX6_11 gX6_0 rfl rfl ?_
    refine aw_iconst C dX6_back_19 li_0 ?_
    refine aw_bipush C dX6_back_20 lb_69 ?_
    refine bw_copy_int C dX6_back_22 lX6_287 rfl rfl rfl rfl (by decide) ?_
    refine aw_aload_0 C dX6_back_25 ?_
    refine aw_getR C dX6_back_26 fX6_11 gX6_0 rfl rfl ?_
    refine aw_bipush C dX6_back_29 lb_66 ?_
    refine aw_iald C dX6_back_31 rfl (aw_ixk (k := 66) (n := 69) rfl rfl) ?_
    obtain rfl := Option.some.inj hF
    exact aw_iret C E dX6_back_32 rfl rfl (bw_ret rfl)
  · refine aw_bipush C dX6_back_7 lb_m3 ?_
    obtain rfl := Option.some.inj hF
    exact aw_iret C E dX6_back_9 rfl rfl (bw_ret rfl)
def BX6_load_72 (a1 : Int32) (a3 : Int32) (a4 : Int32) (u72 : (Int32 × Int32 × aw_H)) : Option ((Int32 × Int32 × aw_H) ⊕ (Int32 × aw_H)) :=
  (if a4 ≤ u72.2.1 then some (Sum.inr (u72.1, u72.2.2)) else (if aw_inb a1 4 = true then (if (FX6_isIn ((a3).toInt64 + ((4 : Int64) * (u72.2.1).toInt64)) (0 : Int64) ((((u72.2.2.1 75 (a1).toNatClampNeg) - (4 : Int32))).toInt64)) = 0 then some (Sum.inr ((-12 : Int32), u72.2.2)) else ((FX6_itemOf a1 ((((a3).toInt64 + ((4 : Int64) * (u72.2.1).toInt64))).toInt32) u72.2.2).bind (fun q4 => ((FX6_itemOf a1 ((((a3).toInt64 + ((4 : Int64) * (u72.2.1).toInt64))).toInt32 + (1 : Int32)) u72.2.2).bind (fun q6 => ((FX6_itemOf a1 ((((a3).toInt64 + ((4 : Int64) * (u72.2.1).toInt64))).toInt32 + (2 : Int32)) u72.2.2).bind (fun q8 => ((FX6_itemOf a1 ((((a3).toInt64 + ((4 : Int64) * (u72.2.1).toInt64))).toInt32 + (3 : Int32)) u72.2.2).bind (fun q10 => ((FX6_part ((q4).toInt32) ((q6).toInt32) ((q8).toInt32) ((q10).toInt32) u72.2.2).bind (fun q12 => (if q12.1 < 0 then some (Sum.inl ((u72.1 + (0 : Int32)), (u72.2.1 + (1 : Int32)), q12.2)) else some (Sum.inl ((u72.1 + (1 : Int32)), (u72.2.1 + (1 : Int32)), q12.2)))))))))))))) else none))
def BX6_load_72' (a1 : Int32) (a3 : Int32) (a4 : Int32) (u72 : (Int32 × Int32 × aw_H)) : Option ((Int32 × Int32 × aw_H) ⊕ (Int32 × aw_H)) :=
  (if a4 ≤ u72.2.1 then some (Sum.inr (u72.1, u72.2.2)) else (if aw_inb a1 4 = true then (if (FX6_isIn ((a3).toInt64 + ((4 : Int64) * (u72.2.1).toInt64)) (0 : Int64) ((((u72.2.2.1 75 (a1).toNatClampNeg) - (4 : Int32))).toInt64)) = 0 then some (Sum.inr ((-12 : Int32), u72.2.2)) else ((FX6_itemOf a1 ((((a3).toInt64 + ((4 : Int64) * (u72.2.1).toInt64))).toInt32) u72.2.2).bind (fun q17 => ((FX6_itemOf a1 ((((a3).toInt64 + ((4 : Int64) * (u72.2.1).toInt64))).toInt32 + (1 : Int32)) u72.2.2).bind (fun q19 => ((FX6_itemOf a1 ((((a3).toInt64 + ((4 : Int64) * (u72.2.1).toInt64))).toInt32 + (2 : Int32)) u72.2.2).bind (fun q21 => ((FX6_itemOf a1 ((((a3).toInt64 + ((4 : Int64) * (u72.2.1).toInt64))).toInt32 + (3 : Int32)) u72.2.2).bind (fun q23 => ((FX6_part ((q17).toInt32) ((q19).toInt32) ((q21).toInt32) ((q23).toInt32) u72.2.2).bind (fun q25 => (if q25.1 < 0 then some (Sum.inl ((u72.1 + (0 : Int32)), (u72.2.1 + (1 : Int32)), q25.2)) else some (Sum.inl ((u72.1 + (1 : Int32)), (u72.2.1 + (1 : Int32)), q25.2)))))))))))))) else none))
def FX6_load (n : Nat) (a1 : Int32) (a2 : Int32) (a3 : Int32) (a4 : Int32) (h : aw_H) : Option (Int32 × aw_H) :=
  (if (FX6_isSheet a1) = 0 then some ((-2 : Int32), h) else (if (FX6_isLine a2) = 0 then some ((-2 : Int32), h) else (if (FX6_isIn ((a4).toInt64) (0 : Int64) (6 : Int64)) = 0 then some ((-2 : Int32), h) else (if aw_inb a1 4 = true then (if (h.1 74 (a1).toNatClampNeg) = (-1 : Int32) then (if aw_inb a1 4 = true then (if (h.1 74 (a1).toNatClampNeg) = (-1 : Int32) then some ((-11 : Int32), h) else aw_loop (BX6_load_72 a1 a3 a4) n ((0 : Int32), (0 : Int32), h)) else none) else (if aw_inb a1 4 = true then (if (h.1 74 (a1).toNatClampNeg) = a2 then (if aw_inb a1 4 = true then (if (h.1 74 (a1).toNatClampNeg) = (-1 : Int32) then some ((-11 : Int32), h) else aw_loop (BX6_load_72' a1 a3 a4) n ((0 : Int32), (0 : Int32), h)) else none) else some ((-13 : Int32), h)) else none)) else none))))
set_option maxRecDepth 100000 in
set_option maxHeartbeats 4000000 in
theorem ctX6_load (n : Nat) (a1 : Int32) (a2 : Int32) (a3 : Int32) (a4 : Int32) (h : aw_H) (y : Int32 × aw_H) (hF : FX6_load n a1 a2 a3 a4 h = some y) : Ct 3 0 0 yX6_load cX6_load 10 (some .int) [.ref 71, .int a1, .int a2, .int a3, .int a4] wL wR h (aw_D (some (.int y.1)) y.2) := by
  refine Ct.of (ls0 := [.ref 71, .int a1, .int a2, .int a3, .int a4, .retAddr 0, .retAddr 0, .retAddr 0, .retAddr 0, .retAddr 0]) (by decide +kernel) rfl rfl (fun X C E hnm => ?_)
  have C : aw_C X RX6 cX6_load 10 3 0 0 := C
  unfold FX6_load at hF
  refine aw_iload_1 C dX6_load_0 ?_
  refine bw_S1i C dX6_load_1 kyX6_isSheet lX6_192 ksX6_isSheet rfl rfl (ctX6_isSheet a1 h _ rfl) ?_
  refine bw_if_eq (tgt := 27) C dX6_load_4 (by decide) hF (fun hF => ?_) (fun hF => ?_)
  · refine aw_bipush C dX6_load_27 lb_m2 ?_
    obtain rfl := Option.some.inj hF
    exact aw_iret C E dX6_load_29 rfl rfl (bw_ret rfl)
  · refine aw_iload_2 C dX6_load_7 ?_
    refine bw_S1i C dX6_load_8 kyX6_isLine lX6_122 ksX6_isLine rfl rfl (ctX6_isLine a2 h _ rfl) ?_
    refine bw_if_eq (tgt := 27) C dX6_load_11 (by decide) hF (fun hF => ?_) (fun hF => ?_)
    · refine aw_bipush C dX6_load_27 lb_m2 ?_
      obtain rfl := Option.some.inj hF
      exact aw_iret C E dX6_load_29 rfl rfl (bw_ret rfl)
    · refine aw_iload_4 C dX6_load_14 ?_
      refine aw_i2l C dX6_load_16 ?_
      refine aw_lconst C dX6_load_17 ll_0 ?_
      refine aw_ldc2 C dX6_load_18 nX6_297 ?_
      refine bw_S3i C dX6_load_21 kyX6_isIn lX6_49 ksX6_isIn rfl rfl (ctX6_isIn ((a4).toInt64) (0 : Int64) (6 : Int64) h _ rfl) ?_
      refine bw_if_ne (tgt := 30) C dX6_load_24 (by decide) hF (fun hF => ?_) (fun hF => ?_)
      · refine aw_aload_0 C dX6_load_30 ?_
        refine aw_getR C dX6_load_31 fX6_18 gX6_6 rfl rfl ?_
        refine aw_iload_1 C dX6_load_34 ?_
        obtain ⟨s1, hF⟩ := bw_side hF
        refine aw_iald C dX6_load_35 rfl (aw_ix s1) ?_
        refine aw_iconst C dX6_load_36 li_m1 ?_
        refine bw_icmp_eq (tgt := 53) C dX6_load_37 (by decide) hF (fun hF => ?_) (fun hF => ?_)
        · refine aw_aload_0 C dX6_load_53 ?_
          refine aw_getR C dX6_load_54 fX6_18 gX6_6 rfl rfl ?_
          refine aw_iload_1 C dX6_load_57 ?_
          obtain ⟨s2, hF⟩ := bw_side hF
          refine aw_iald C dX6_load_58 rfl (aw_ix s2) ?_
          refine aw_iconst C dX6_load_59 li_m1 ?_
          refine bw_icmp_ne (tgt := 66) C dX6_load_60 (by decide) hF (fun hF => ?_) (fun hF => ?_)
          · refine aw_iconst C dX6_load_66 li_0 ?_
            refine aw_istore_5 C dX6_load_67 rfl rfl ?_
            refine aw_iconst C dX6_load_69 li_0 ?_
            refine aw_istore_6 C dX6_load_70 rfl rfl ?_
            refine aw_weak (show aw_le [.ref 71, .int a1, .retAddr 0, .int a3, .int a4, .int (0 : Int32), .int (0 : Int32), .retAddr 0, .retAddr 0, .retAddr 0] [.ref 71, .int a1, .int a2, .int a3, .int a4, .int (0 : Int32), .int (0 : Int32), .retAddr 0, .retAddr 0, .retAddr 0] from ⟨Or.inr rfl, Or.inr rfl, Or.inl rfl, Or.inr rfl, Or.inr rfl, Or.inr rfl, Or.inr rfl, Or.inr rfl, Or.inr rfl, Or.inr rfl, trivial⟩) ?_
            refine aw_loop_rule (fun u72 : (Int32 × Int32 × aw_H) => AW X 10 72 [.ref 71, .int a1, .retAddr 0, .int a3, .int a4, .int u72.1, .int u72.2.1, .retAddr 0, .retAddr 0, .retAddr 0] [] wL wR u72.2.2 0 0) (fun q => q = y) (fun u72 y72 hF hK => ?_) n ((0 : Int32), (0 : Int32), h) _ hF rfl
            unfold BX6_load_72 at hF
            refine aw_iload_6 C dX6_load_72 ?_
            refine aw_iload_4 C dX6_load_74 ?_
            refine bw_icmp_ge (tgt := 178) C dX6_load_76 (by decide) hF (fun hF => ?_) (fun hF => ?_)
            · refine aw_iload_5 C dX6_load_178 ?_
              obtain rfl := Option.some.inj hF
              have hK : _ = y := hK
              subst hK
              exact aw_iret C E dX6_load_180 rfl rfl (bw_ret rfl)
            · refine aw_iload_3 C dX6_load_79 ?_
              refine aw_i2l C dX6_load_80 ?_
              refine aw_ldc2 C dX6_load_81 nX6_87 ?_
              refine aw_iload_6 C dX6_load_84 ?_
              refine aw_i2l C dX6_load_86 ?_
              refine aw_lmul C dX6_load_87 ?_
              refine aw_ladd C dX6_load_88 ?_
              refine aw_lstore_7 C dX6_load_89 rfl rfl ?_
              refine aw_lload_7 C dX6_load_91 ?_
              refine aw_lconst C dX6_load_93 ll_0 ?_
              refine aw_aload_0 C dX6_load_94 ?_
              refine aw_getR C dX6_load_95 fX6_21 gX6_7 rfl rfl ?_
              refine aw_iload_1 C dX6_load_98 ?_
              obtain ⟨s3, hF⟩ := bw_side hF
              refine aw_iald C dX6_load_99 rfl (aw_ix s3) ?_
              refine aw_iconst C dX6_load_100 li_4 ?_
              refine aw_isub C dX6_load_101 ?_
              refine aw_i2l C dX6_load_102 ?_
              refine bw_S3i C dX6_load_103 kyX6_isIn lX6_49 ksX6_isIn rfl rfl (ctX6_isIn ((a3).toInt64 + ((4 : Int64) * (u72.2.1).toInt64)) (0 : Int64) ((((u72.2.2.1 75 (a1).toNatClampNeg) - (4 : Int32))).toInt64) u72.2.2 _ rfl) ?_
              refine bw_if_ne (tgt := 112) C dX6_load_106 (by decide) hF (fun hF => ?_) (fun hF => ?_)
              · refine aw_lload_7 C dX6_load_112 ?_
                refine aw_l2i C dX6_load_114 ?_
                refine aw_istore_9 C dX6_load_115 rfl rfl ?_
                refine aw_iload_5 C dX6_load_117 ?_
                refine aw_aload_0 C dX6_load_119 ?_
                refine aw_aload_0 C dX6_load_120 ?_
                refine aw_iload_1 C dX6_load_121 ?_
                refine aw_iload_9 C dX6_load_122 ?_
                obtain ⟨q4, e5, hF⟩ := bw_bind hF
                refine bw_V2l C dX6_load_124 kyX6_itemOf lX6_186 kiX6_itemOf kvX6_itemOf (aw_rv C rfl rfl) rfl rfl (ctX6_itemOf a1 ((((a3).toInt64 + ((4 : Int64) * (u72.2.1).toInt64))).toInt32) u72.2.2 q4 e5) ?_
                refine aw_l2i C dX6_load_127 ?_
                refine aw_aload_0 C dX6_load_128 ?_
                refine aw_iload_1 C dX6_load_129 ?_
                refine aw_iload_9 C dX6_load_130 ?_
                refine aw_iconst C dX6_load_132 li_1 ?_
                refine aw_iadd C dX6_load_133 ?_
                obtain ⟨q6, e7, hF⟩ := bw_bind hF
                refine bw_V2l C dX6_load_134 kyX6_itemOf lX6_186 kiX6_itemOf kvX6_itemOf (aw_rv C rfl rfl) rfl rfl (ctX6_itemOf a1 ((((a3).toInt64 + ((4 : Int64) * (u72.2.1).toInt64))).toInt32 + (1 : Int32)) u72.2.2 q6 e7) ?_
                refine aw_l2i C dX6_load_137 ?_
                refine aw_aload_0 C dX6_load_138 ?_
                refine aw_iload_1 C dX6_load_139 ?_
                refine aw_iload_9 C dX6_load_140 ?_
                refine aw_iconst C dX6_load_142 li_2 ?_
                refine aw_iadd C dX6_load_143 ?_
                obtain ⟨q8, e9, hF⟩ := bw_bind hF
                refine bw_V2l C dX6_load_144 kyX6_itemOf lX6_186 kiX6_itemOf kvX6_itemOf (aw_rv C rfl rfl) rfl rfl (ctX6_itemOf a1 ((((a3).toInt64 + ((4 : Int64) * (u72.2.1).toInt64))).toInt32 + (2 : Int32)) u72.2.2 q8 e9) ?_
                refine aw_l2i C dX6_load_147 ?_
                refine aw_aload_0 C dX6_load_148 ?_
                refine aw_iload_1 C dX6_load_149 ?_
                refine aw_iload_9 C dX6_load_150 ?_
                refine aw_iconst C dX6_load_152 li_3 ?_
                refine aw_iadd C dX6_load_153 ?_
                obtain ⟨q10, e11, hF⟩ := bw_bind hF
                refine bw_V2l C dX6_load_154 kyX6_itemOf lX6_186 kiX6_itemOf kvX6_itemOf (aw_rv C rfl rfl) rfl rfl (ctX6_itemOf a1 ((((a3).toInt64 + ((4 : Int64) * (u72.2.1).toInt64))).toInt32 + (3 : Int32)) u72.2.2 q10 e11) ?_
                refine aw_l2i C dX6_load_157 ?_
                obtain ⟨q12, e13, hF⟩ := bw_bind hF
                refine bw_V4i C dX6_load_158 kyX6_part lX6_265 kiX6_part kvX6_part (aw_rv C rfl rfl) rfl rfl (ctX6_part ((q4).toInt32) ((q6).toInt32) ((q8).toInt32) ((q10).toInt32) u72.2.2 q12 e13) ?_
                refine bw_if_lt (tgt := 168) C dX6_load_161 (by decide) hF (fun hF => ?_) (fun hF => ?_)
                · refine aw_iconst C dX6_load_168 li_0 ?_
                  refine aw_iadd C dX6_load_169 ?_
                  refine aw_istore_5 C dX6_load_170 rfl rfl ?_
                  refine aw_iinc_6 C dX6_load_172 li_1 rfl rfl ?_
                  refine aw_goto (tgt := 72) C dX6_load_175 (by decide) ?_
                  cases hF
                  exact aw_weak (show aw_le [.ref 71, .int a1, .retAddr 0, .int a3, .int a4, .int (u72.1 + (0 : Int32)), .int (u72.2.1 + (1 : Int32)), .retAddr 0, .retAddr 0, .retAddr 0] [.ref 71, .int a1, .retAddr 0, .int a3, .int a4, .int (u72.1 + (0 : Int32)), .int (u72.2.1 + (1 : Int32)), .long ((a3).toInt64 + ((4 : Int64) * (u72.2.1).toInt64)), .retAddr 0, .int ((((a3).toInt64 + ((4 : Int64) * (u72.2.1).toInt64))).toInt32)] from ⟨Or.inr rfl, Or.inr rfl, Or.inr rfl, Or.inr rfl, Or.inr rfl, Or.inr rfl, Or.inr rfl, Or.inl rfl, Or.inr rfl, Or.inl rfl, trivial⟩) hK
                · refine aw_iconst C dX6_load_164 li_1 ?_
                  refine aw_goto (tgt := 169) C dX6_load_165 (by decide) ?_
                  refine aw_iadd C dX6_load_169 ?_
                  refine aw_istore_5 C dX6_load_170 rfl rfl ?_
                  refine aw_iinc_6 C dX6_load_172 li_1 rfl rfl ?_
                  refine aw_goto (tgt := 72) C dX6_load_175 (by decide) ?_
                  cases hF
                  exact aw_weak (show aw_le [.ref 71, .int a1, .retAddr 0, .int a3, .int a4, .int (u72.1 + (1 : Int32)), .int (u72.2.1 + (1 : Int32)), .retAddr 0, .retAddr 0, .retAddr 0] [.ref 71, .int a1, .retAddr 0, .int a3, .int a4, .int (u72.1 + (1 : Int32)), .int (u72.2.1 + (1 : Int32)), .long ((a3).toInt64 + ((4 : Int64) * (u72.2.1).toInt64)), .retAddr 0, .int ((((a3).toInt64 + ((4 : Int64) * (u72.2.1).toInt64))).toInt32)] from ⟨Or.inr rfl, Or.inr rfl, Or.inr rfl, Or.inr rfl, Or.inr rfl, Or.inr rfl, Or.inr rfl, Or.inl rfl, Or.inr rfl, Or.inl rfl, trivial⟩) hK
              · refine aw_bipush C dX6_load_109 lb_m12 ?_
                obtain rfl := Option.some.inj hF
                have hK : _ = y := hK
                subst hK
                exact aw_iret C E dX6_load_111 rfl rfl (bw_ret rfl)
          · refine aw_bipush C dX6_load_63 lb_m11 ?_
            obtain rfl := Option.some.inj hF
            exact aw_iret C E dX6_load_65 rfl rfl (bw_ret rfl)
        · refine aw_aload_0 C dX6_load_40 ?_
          refine aw_getR C dX6_load_41 fX6_18 gX6_6 rfl rfl ?_
          refine aw_iload_1 C dX6_load_44 ?_
          obtain ⟨s14, hF⟩ := bw_side hF
          refine aw_iald C dX6_load_45 rfl (aw_ix s14) ?_
          refine aw_iload_2 C dX6_load_46 ?_
          refine bw_icmp_eq (tgt := 53) C dX6_load_47 (by decide) hF (fun hF => ?_) (fun hF => ?_)
          · refine aw_aload_0 C dX6_load_53 ?_
            refine aw_getR C dX6_load_54 fX6_18 gX6_6 rfl rfl ?_
            refine aw_iload_1 C dX6_load_57 ?_
            obtain ⟨s15, hF⟩ := bw_side hF
            refine aw_iald C dX6_load_58 rfl (aw_ix s15) ?_
            refine aw_iconst C dX6_load_59 li_m1 ?_
            refine bw_icmp_ne (tgt := 66) C dX6_load_60 (by decide) hF (fun hF => ?_) (fun hF => ?_)
            · refine aw_iconst C dX6_load_66 li_0 ?_
              refine aw_istore_5 C dX6_load_67 rfl rfl ?_
              refine aw_iconst C dX6_load_69 li_0 ?_
              refine aw_istore_6 C dX6_load_70 rfl rfl ?_
              refine aw_weak (show aw_le [.ref 71, .int a1, .retAddr 0, .int a3, .int a4, .int (0 : Int32), .int (0 : Int32), .retAddr 0, .retAddr 0, .retAddr 0] [.ref 71, .int a1, .int a2, .int a3, .int a4, .int (0 : Int32), .int (0 : Int32), .retAddr 0, .retAddr 0, .retAddr 0] from ⟨Or.inr rfl, Or.inr rfl, Or.inl rfl, Or.inr rfl, Or.inr rfl, Or.inr rfl, Or.inr rfl, Or.inr rfl, Or.inr rfl, Or.inr rfl, trivial⟩) ?_
              refine aw_loop_rule (fun u72 : (Int32 × Int32 × aw_H) => AW X 10 72 [.ref 71, .int a1, .retAddr 0, .int a3, .int a4, .int u72.1, .int u72.2.1, .retAddr 0, .retAddr 0, .retAddr 0] [] wL wR u72.2.2 0 0) (fun q => q = y) (fun u72 y72 hF hK => ?_) n ((0 : Int32), (0 : Int32), h) _ hF rfl
              unfold BX6_load_72' at hF
              refine aw_iload_6 C dX6_load_72 ?_
              refine aw_iload_4 C dX6_load_74 ?_
              refine bw_icmp_ge (tgt := 178) C dX6_load_76 (by decide) hF (fun hF => ?_) (fun hF => ?_)
              · refine aw_iload_5 C dX6_load_178 ?_
                obtain rfl := Option.some.inj hF
                have hK : _ = y := hK
                subst hK
                exact aw_iret C E dX6_load_180 rfl rfl (bw_ret rfl)
              · refine aw_iload_3 C dX6_load_79 ?_
                refine aw_i2l C dX6_load_80 ?_
                refine aw_ldc2 C dX6_load_81 nX6_87 ?_
                refine aw_iload_6 C dX6_load_84 ?_
                refine aw_i2l C dX6_load_86 ?_
                refine aw_lmul C dX6_load_87 ?_
                refine aw_ladd C dX6_load_88 ?_
                refine aw_lstore_7 C dX6_load_89 rfl rfl ?_
                refine aw_lload_7 C dX6_load_91 ?_
                refine aw_lconst C dX6_load_93 ll_0 ?_
                refine aw_aload_0 C dX6_load_94 ?_
                refine aw_getR C dX6_load_95 fX6_21 gX6_7 rfl rfl ?_
                refine aw_iload_1 C dX6_load_98 ?_
                obtain ⟨s16, hF⟩ := bw_side hF
                refine aw_iald C dX6_load_99 rfl (aw_ix s16) ?_
                refine aw_iconst C dX6_load_100 li_4 ?_
                refine aw_isub C dX6_load_101 ?_
                refine aw_i2l C dX6_load_102 ?_
                refine bw_S3i C dX6_load_103 kyX6_isIn lX6_49 ksX6_isIn rfl rfl (ctX6_isIn ((a3).toInt64 + ((4 : Int64) * (u72.2.1).toInt64)) (0 : Int64) ((((u72.2.2.1 75 (a1).toNatClampNeg) - (4 : Int32))).toInt64) u72.2.2 _ rfl) ?_
                refine bw_if_ne (tgt := 112) C dX6_load_106 (by decide) hF (fun hF => ?_) (fun hF => ?_)
                · refine aw_lload_7 C dX6_load_112 ?_
                  refine aw_l2i C dX6_load_114 ?_
                  refine aw_istore_9 C dX6_load_115 rfl rfl ?_
                  refine aw_iload_5 C dX6_load_117 ?_
                  refine aw_aload_0 C dX6_load_119 ?_
                  refine aw_aload_0 C dX6_load_120 ?_
                  refine aw_iload_1 C dX6_load_121 ?_
                  refine aw_iload_9 C dX6_load_122 ?_
                  obtain ⟨q17, e18, hF⟩ := bw_bind hF
                  refine bw_V2l C dX6_load_124 kyX6_itemOf lX6_186 kiX6_itemOf kvX6_itemOf (aw_rv C rfl rfl) rfl rfl (ctX6_itemOf a1 ((((a3).toInt64 + ((4 : Int64) * (u72.2.1).toInt64))).toInt32) u72.2.2 q17 e18) ?_
                  refine aw_l2i C dX6_load_127 ?_
                  refine aw_aload_0 C dX6_load_128 ?_
                  refine aw_iload_1 C dX6_load_129 ?_
                  refine aw_iload_9 C dX6_load_130 ?_
                  refine aw_iconst C dX6_load_132 li_1 ?_
                  refine aw_iadd C dX6_load_133 ?_
                  obtain ⟨q19, e20, hF⟩ := bw_bind hF
                  refine bw_V2l C dX6_load_134 kyX6_itemOf lX6_186 kiX6_itemOf kvX6_itemOf (aw_rv C rfl rfl) rfl rfl (ctX6_itemOf a1 ((((a3).toInt64 + ((4 : Int64) * (u72.2.1).toInt64))).toInt32 + (1 : Int32)) u72.2.2 q19 e20) ?_
                  refine aw_l2i C dX6_load_137 ?_
                  refine aw_aload_0 C dX6_load_138 ?_
                  refine aw_iload_1 C dX6_load_139 ?_
                  refine aw_iload_9 C dX6_load_140 ?_
                  refine aw_iconst C dX6_load_142 li_2 ?_
                  refine aw_iadd C dX6_load_143 ?_
                  obtain ⟨q21, e22, hF⟩ := bw_bind hF
                  refine bw_V2l C dX6_load_144 kyX6_itemOf lX6_186 kiX6_itemOf kvX6_itemOf (aw_rv C rfl rfl) rfl rfl (ctX6_itemOf a1 ((((a3).toInt64 + ((4 : Int64) * (u72.2.1).toInt64))).toInt32 + (2 : Int32)) u72.2.2 q21 e22) ?_
                  refine aw_l2i C dX6_load_147 ?_
                  refine aw_aload_0 C dX6_load_148 ?_
                  refine aw_iload_1 C dX6_load_149 ?_
                  refine aw_iload_9 C dX6_load_150 ?_
                  refine aw_iconst C dX6_load_152 li_3 ?_
                  refine aw_iadd C dX6_load_153 ?_
                  obtain ⟨q23, e24, hF⟩ := bw_bind hF
                  refine bw_V2l C dX6_load_154 kyX6_itemOf lX6_186 kiX6_itemOf kvX6_itemOf (aw_rv C rfl rfl) rfl rfl (ctX6_itemOf a1 ((((a3).toInt64 + ((4 : Int64) * (u72.2.1).toInt64))).toInt32 + (3 : Int32)) u72.2.2 q23 e24) ?_
                  refine aw_l2i C dX6_load_157 ?_
                  obtain ⟨q25, e26, hF⟩ := bw_bind hF
                  refine bw_V4i C dX6_load_158 kyX6_part lX6_265 kiX6_part kvX6_part (aw_rv C rfl rfl) rfl rfl (ctX6_part ((q17).toInt32) ((q19).toInt32) ((q21).toInt32) ((q23).toInt32) u72.2.2 q25 e26) ?_
                  refine bw_if_lt (tgt := 168) C dX6_load_161 (by decide) hF (fun hF => ?_) (fun hF => ?_)
                  · refine aw_iconst C dX6_load_168 li_0 ?_
                    refine aw_iadd C dX6_load_169 ?_
                    refine aw_istore_5 C dX6_load_170 rfl rfl ?_
                    refine aw_iinc_6 C dX6_load_172 li_1 rfl rfl ?_
                    refine aw_goto (tgt := 72) C dX6_load_175 (by decide) ?_
                    cases hF
                    exact aw_weak (show aw_le [.ref 71, .int a1, .retAddr 0, .int a3, .int a4, .int (u72.1 + (0 : Int32)), .int (u72.2.1 + (1 : Int32)), .retAddr 0, .retAddr 0, .retAddr 0] [.ref 71, .int a1, .retAddr 0, .int a3, .int a4, .int (u72.1 + (0 : Int32)), .int (u72.2.1 + (1 : Int32)), .long ((a3).toInt64 + ((4 : Int64) * (u72.2.1).toInt64)), .retAddr 0, .int ((((a3).toInt64 + ((4 : Int64) * (u72.2.1).toInt64))).toInt32)] from ⟨Or.inr rfl, Or.inr rfl, Or.inr rfl, Or.inr rfl, Or.inr rfl, Or.inr rfl, Or.inr rfl, Or.inl rfl, Or.inr rfl, Or.inl rfl, trivial⟩) hK
                  · refine aw_iconst C dX6_load_164 li_1 ?_
                    refine aw_goto (tgt := 169) C dX6_load_165 (by decide) ?_
                    refine aw_iadd C dX6_load_169 ?_
                    refine aw_istore_5 C dX6_load_170 rfl rfl ?_
                    refine aw_iinc_6 C dX6_load_172 li_1 rfl rfl ?_
                    refine aw_goto (tgt := 72) C dX6_load_175 (by decide) ?_
                    cases hF
                    exact aw_weak (show aw_le [.ref 71, .int a1, .retAddr 0, .int a3, .int a4, .int (u72.1 + (1 : Int32)), .int (u72.2.1 + (1 : Int32)), .retAddr 0, .retAddr 0, .retAddr 0] [.ref 71, .int a1, .retAddr 0, .int a3, .int a4, .int (u72.1 + (1 : Int32)), .int (u72.2.1 + (1 : Int32)), .long ((a3).toInt64 + ((4 : Int64) * (u72.2.1).toInt64)), .retAddr 0, .int ((((a3).toInt64 + ((4 : Int64) * (u72.2.1).toInt64))).toInt32)] from ⟨Or.inr rfl, Or.inr rfl, Or.inr rfl, Or.inr rfl, Or.inr rfl, Or.inr rfl, Or.inr rfl, Or.inl rfl, Or.inr rfl, Or.inl rfl, trivial⟩) hK
                · refine aw_bipush C dX6_load_109 lb_m12 ?_
                  obtain rfl := Option.some.inj hF
                  have hK : _ = y := hK
                  subst hK
                  exact aw_iret C E dX6_load_111 rfl rfl (bw_ret rfl)
            · refine aw_bipush C dX6_load_63 lb_m11 ?_
              obtain rfl := Option.some.inj hF
              exact aw_iret C E dX6_load_65 rfl rfl (bw_ret rfl)
          · refine aw_bipush C dX6_load_50 lb_m13 ?_
            obtain rfl := Option.some.inj hF
            exact aw_iret C E dX6_load_52 rfl rfl (bw_ret rfl)
      · refine aw_bipush C dX6_load_27 lb_m2 ?_
        obtain rfl := Option.some.inj hF
        exact aw_iret C E dX6_load_29 rfl rfl (bw_ret rfl)
def BX6_pairsOfAll_4 (h : aw_H) (u4 : (Int32 × Int32)) : Option ((Int32 × Int32) ⊕ Int32) :=
  (if (h.1 72 66) ≤ u4.2 then some (Sum.inr u4.1) else ((FX6_at u4.2 (4 : Int32) h).bind (fun q1 => some (Sum.inl ((u4.1 + q1), (u4.2 + (1 : Int32)))))))
def FX6_pairsOfAll (n : Nat) (h : aw_H) : Option (Int32) :=
  aw_loop (BX6_pairsOfAll_4 h) n ((0 : Int32), (0 : Int32))
set_option maxRecDepth 100000 in
set_option maxHeartbeats 4000000 in
theorem ctX6_pairsOfAll (n : Nat) (h : aw_H) (y : Int32) (hF : FX6_pairsOfAll n h = some y) : Ct 1 0 0 yX6_pairsOfAll cX6_pairsOfAll 3 (some .int) [.ref 71] wL wR h (aw_D (some (.int y)) h) := by
  refine Ct.of (ls0 := [.ref 71, .retAddr 0, .retAddr 0]) (by decide +kernel) rfl rfl (fun X C E hnm => ?_)
  have C : aw_C X RX6 cX6_pairsOfAll 3 1 0 0 := C
  unfold FX6_pairsOfAll at hF
  refine aw_iconst C dX6_pairsOfAll_0 li_0 ?_
  refine aw_istore_1 C dX6_pairsOfAll_1 rfl rfl ?_
  refine aw_iconst C dX6_pairsOfAll_2 li_0 ?_
  refine aw_istore_2 C dX6_pairsOfAll_3 rfl rfl ?_
  refine aw_loop_rule (fun u4 : (Int32 × Int32) => AW X 3 4 [.ref 71, .int u4.1, .int u4.2] [] wL wR h 0 0) (fun q => q = y) (fun u4 y4 hF hK => ?_) n ((0 : Int32), (0 : Int32)) _ hF rfl
  unfold BX6_pairsOfAll_4 at hF
  refine aw_iload_2 C dX6_pairsOfAll_4 ?_
  refine aw_aload_0 C dX6_pairsOfAll_5 ?_
  refine aw_getR C dX6_pairsOfAll_6 fX6_11 gX6_0 rfl rfl ?_
  refine aw_bipush C dX6_pairsOfAll_9 lb_66 ?_
  refine aw_iald C dX6_pairsOfAll_11 rfl (aw_ixk (k := 66) (n := 69) rfl rfl) ?_
  refine bw_icmp_ge (tgt := 30) C dX6_pairsOfAll_12 (by decide) hF (fun hF => ?_) (fun hF => ?_)
  · refine aw_iload_1 C dX6_pairsOfAll_30 ?_
    obtain rfl := Option.some.inj hF
    have hK : _ = y := hK
    subst hK
    exact aw_iret C E dX6_pairsOfAll_31 rfl rfl (bw_ret rfl)
  · refine aw_iload_1 C dX6_pairsOfAll_15 ?_
    refine aw_aload_0 C dX6_pairsOfAll_16 ?_
    refine aw_iload_2 C dX6_pairsOfAll_17 ?_
    refine aw_iconst C dX6_pairsOfAll_18 li_4 ?_
    obtain ⟨q1, e2, hF⟩ := bw_bind hF
    refine bw_V2i C dX6_pairsOfAll_19 kyX6_at lX6_77 kiX6_at kvX6_at (aw_rv C rfl rfl) rfl rfl (ctX6_at u4.2 (4 : Int32) h q1 e2) ?_
    refine aw_iadd C dX6_pairsOfAll_22 ?_
    refine aw_istore_1 C dX6_pairsOfAll_23 rfl rfl ?_
    refine aw_iinc_2 C dX6_pairsOfAll_24 li_1 rfl rfl ?_
    refine aw_goto (tgt := 4) C dX6_pairsOfAll_27 (by decide) ?_
    cases hF
    exact hK
def BX6_jammed_4 (n : Nat) (h : aw_H) (u4 : (Int32 × Int32)) : Option ((Int32 × Int32) ⊕ Int32) :=
  (if (h.1 72 66) ≤ u4.2 then some (Sum.inr u4.1) else ((FX6_jamOf n u4.2 h).bind (fun q1 => (if q1 = (-1 : Int32) then some (Sum.inl ((u4.1 + (0 : Int32)), (u4.2 + (1 : Int32)))) else some (Sum.inl ((u4.1 + (1 : Int32)), (u4.2 + (1 : Int32))))))))
def FX6_jammed (n : Nat) (h : aw_H) : Option (Int32) :=
  aw_loop (BX6_jammed_4 n h) n ((0 : Int32), (0 : Int32))
set_option maxRecDepth 100000 in
set_option maxHeartbeats 4000000 in
theorem ctX6_jammed (n : Nat) (h : aw_H) (y : Int32) (hF : FX6_jammed n h = some y) : Ct 2 0 0 yX6_jammed cX6_jammed 3 (some .int) [.ref 71] wL wR h (aw_D (some (.int y)) h) := by
  refine Ct.of (ls0 := [.ref 71, .retAddr 0, .retAddr 0]) (by decide +kernel) rfl rfl (fun X C E hnm => ?_)
  have C : aw_C X RX6 cX6_jammed 3 2 0 0 := C
  unfold FX6_jammed at hF
  refine aw_iconst C dX6_jammed_0 li_0 ?_
  refine aw_istore_1 C dX6_jammed_1 rfl rfl ?_
  refine aw_iconst C dX6_jammed_2 li_0 ?_
  refine aw_istore_2 C dX6_jammed_3 rfl rfl ?_
  refine aw_loop_rule (fun u4 : (Int32 × Int32) => AW X 3 4 [.ref 71, .int u4.1, .int u4.2] [] wL wR h 0 0) (fun q => q = y) (fun u4 y4 hF hK => ?_) n ((0 : Int32), (0 : Int32)) _ hF rfl
  unfold BX6_jammed_4 at hF
  refine aw_iload_2 C dX6_jammed_4 ?_
  refine aw_aload_0 C dX6_jammed_5 ?_
  refine aw_getR C dX6_jammed_6 fX6_11 gX6_0 rfl rfl ?_
  refine aw_bipush C dX6_jammed_9 lb_66 ?_
  refine aw_iald C dX6_jammed_11 rfl (aw_ixk (k := 66) (n := 69) rfl rfl) ?_
  refine bw_icmp_ge (tgt := 38) C dX6_jammed_12 (by decide) hF (fun hF => ?_) (fun hF => ?_)
  · refine aw_iload_1 C dX6_jammed_38 ?_
    obtain rfl := Option.some.inj hF
    have hK : _ = y := hK
    subst hK
    exact aw_iret C E dX6_jammed_39 rfl rfl (bw_ret rfl)
  · refine aw_iload_1 C dX6_jammed_15 ?_
    refine aw_aload_0 C dX6_jammed_16 ?_
    refine aw_iload_2 C dX6_jammed_17 ?_
    obtain ⟨q1, e2, hF⟩ := bw_bind hF
    refine bw_V1i C dX6_jammed_18 kyX6_jamOf lX6_106 kiX6_jamOf kvX6_jamOf (aw_rv C rfl rfl) rfl rfl (ctX6_jamOf n u4.2 h q1 e2) ?_
    refine aw_iconst C dX6_jammed_21 li_m1 ?_
    refine bw_icmp_ne (tgt := 29) C dX6_jammed_22 (by decide) hF (fun hF => ?_) (fun hF => ?_)
    · refine aw_iconst C dX6_jammed_29 li_1 ?_
      refine aw_iadd C dX6_jammed_30 ?_
      refine aw_istore_1 C dX6_jammed_31 rfl rfl ?_
      refine aw_iinc_2 C dX6_jammed_32 li_1 rfl rfl ?_
      refine aw_goto (tgt := 4) C dX6_jammed_35 (by decide) ?_
      cases hF
      exact hK
    · refine aw_iconst C dX6_jammed_25 li_0 ?_
      refine aw_goto (tgt := 30) C dX6_jammed_26 (by decide) ?_
      refine aw_iadd C dX6_jammed_30 ?_
      refine aw_istore_1 C dX6_jammed_31 rfl rfl ?_
      refine aw_iinc_2 C dX6_jammed_32 li_1 rfl rfl ?_
      refine aw_goto (tgt := 4) C dX6_jammed_35 (by decide) ?_
      cases hF
      exact hK
def FX6_count (n : Nat) (a1 : Int32) (h : aw_H) : Option (Int32) :=
  (if a1 = (0 : Int32) then some (h.1 72 66) else (if a1 = (1 : Int32) then some (h.1 72 68) else (if a1 = (2 : Int32) then some (h.1 71 12) else (if a1 = (3 : Int32) then ((FX6_pairsOfAll n h).bind (fun q4 => some q4)) else (if a1 = (4 : Int32) then ((FX6_jammed n h).bind (fun q7 => some q7)) else (if a1 = (5 : Int32) then some (h.1 72 67) else some (-2 : Int32)))))))
set_option maxRecDepth 100000 in
set_option maxHeartbeats 4000000 in
theorem ctX6_count (n : Nat) (a1 : Int32) (h : aw_H) (y : Int32) (hF : FX6_count n a1 h = some y) : Ct 3 0 0 yX6_count cX6_count 2 (some .int) [.ref 71, .int a1] wL wR h (aw_D (some (.int y)) h) := by
  refine Ct.of (ls0 := [.ref 71, .int a1]) (by decide +kernel) rfl rfl (fun X C E hnm => ?_)
  have C : aw_C X RX6 cX6_count 2 3 0 0 := C
  unfold FX6_count at hF
  refine aw_iload_1 C dX6_count_0 ?_
  rcases Decidable.em (a1 = (0 : Int32)) with c1 | c1
  · rw [if_pos c1] at hF
    refine aw_tabIn (off := 39) (tgt := 40) C dX6_count_1 (by rw [c1]; decide) (by rw [c1]; decide) (by rw [c1]; rfl) (by decide) ?_
    refine aw_aload_0 C dX6_count_40 ?_
    refine aw_getR C dX6_count_41 fX6_11 gX6_0 rfl rfl ?_
    refine aw_bipush C dX6_count_44 lb_66 ?_
    refine aw_iald C dX6_count_46 rfl (aw_ixk (k := 66) (n := 69) rfl rfl) ?_
    obtain rfl := Option.some.inj hF
    exact aw_iret C E dX6_count_47 rfl rfl (bw_ret rfl)
  rw [if_neg c1] at hF
  rcases Decidable.em (a1 = (1 : Int32)) with c2 | c2
  · rw [if_pos c2] at hF
    refine aw_tabIn (off := 47) (tgt := 48) C dX6_count_1 (by rw [c2]; decide) (by rw [c2]; decide) (by rw [c2]; rfl) (by decide) ?_
    refine aw_aload_0 C dX6_count_48 ?_
    refine aw_getR C dX6_count_49 fX6_11 gX6_0 rfl rfl ?_
    refine aw_bipush C dX6_count_52 lb_68 ?_
    refine aw_iald C dX6_count_54 rfl (aw_ixk (k := 68) (n := 69) rfl rfl) ?_
    obtain rfl := Option.some.inj hF
    exact aw_iret C E dX6_count_55 rfl rfl (bw_ret rfl)
  rw [if_neg c2] at hF
  rcases Decidable.em (a1 = (2 : Int32)) with c3 | c3
  · rw [if_pos c3] at hF
    refine aw_tabIn (off := 55) (tgt := 56) C dX6_count_1 (by rw [c3]; decide) (by rw [c3]; decide) (by rw [c3]; rfl) (by decide) ?_
    refine aw_aload_0 C dX6_count_56 ?_
    refine aw_getI C dX6_count_57 fX6_225 gX6_12 rfl ?_
    obtain rfl := Option.some.inj hF
    exact aw_iret C E dX6_count_60 rfl rfl (bw_ret rfl)
  rw [if_neg c3] at hF
  rcases Decidable.em (a1 = (3 : Int32)) with c6 | c6
  · rw [if_pos c6] at hF
    refine aw_tabIn (off := 60) (tgt := 61) C dX6_count_1 (by rw [c6]; decide) (by rw [c6]; decide) (by rw [c6]; rfl) (by decide) ?_
    refine aw_aload_0 C dX6_count_61 ?_
    obtain ⟨q4, e5, hF⟩ := bw_bind hF
    refine bw_V0i C dX6_count_62 kyX6_pairsOfAll lX6_299 kiX6_pairsOfAll kvX6_pairsOfAll (aw_rv C rfl rfl) rfl rfl (ctX6_pairsOfAll n h q4 e5) ?_
    obtain rfl := Option.some.inj hF
    exact aw_iret C E dX6_count_65 rfl rfl (bw_ret rfl)
  rw [if_neg c6] at hF
  rcases Decidable.em (a1 = (4 : Int32)) with c9 | c9
  · rw [if_pos c9] at hF
    refine aw_tabIn (off := 65) (tgt := 66) C dX6_count_1 (by rw [c9]; decide) (by rw [c9]; decide) (by rw [c9]; rfl) (by decide) ?_
    refine aw_aload_0 C dX6_count_66 ?_
    obtain ⟨q7, e8, hF⟩ := bw_bind hF
    refine bw_V0i C dX6_count_67 kyX6_jammed lX6_302 kiX6_jammed kvX6_jammed (aw_rv C rfl rfl) rfl rfl (ctX6_jammed n h q7 e8) ?_
    obtain rfl := Option.some.inj hF
    exact aw_iret C E dX6_count_70 rfl rfl (bw_ret rfl)
  rw [if_neg c9] at hF
  rcases Decidable.em (a1 = (5 : Int32)) with c10 | c10
  · rw [if_pos c10] at hF
    refine aw_tabIn (off := 70) (tgt := 71) C dX6_count_1 (by rw [c10]; decide) (by rw [c10]; decide) (by rw [c10]; rfl) (by decide) ?_
    refine aw_aload_0 C dX6_count_71 ?_
    refine aw_getR C dX6_count_72 fX6_11 gX6_0 rfl rfl ?_
    refine aw_bipush C dX6_count_75 lb_67 ?_
    refine aw_iald C dX6_count_77 rfl (aw_ixk (k := 67) (n := 69) rfl rfl) ?_
    obtain rfl := Option.some.inj hF
    exact aw_iret C E dX6_count_78 rfl rfl (bw_ret rfl)
  rw [if_neg c10] at hF
  refine aw_tabOut (tgt := 79) C dX6_count_1 (by
      have zc1 := bw_lit (z := 0) (by decide) c1
      have zc2 := bw_lit (z := 1) (by decide) c2
      have zc3 := bw_lit (z := 2) (by decide) c3
      have zc6 := bw_lit (z := 3) (by decide) c6
      have zc9 := bw_lit (z := 4) (by decide) c9
      have zc10 := bw_lit (z := 5) (by decide) c10
      omega) (by decide) ?_
  refine aw_bipush C dX6_count_79 lb_m2 ?_
  obtain rfl := Option.some.inj hF
  exact aw_iret C E dX6_count_81 rfl rfl (bw_ret rfl)
def FX6_put (a1 : Int32) (a2 : Int32) (a3 : Int64) (h : aw_H) : Option (Int32 × aw_H) :=
  (if (FX6_isSheet a1) = 0 then some ((-2 : Int32), h) else (if aw_inb a1 4 = true then (if (h.1 74 (a1).toNatClampNeg) = (-1 : Int32) then some ((-11 : Int32), h) else (if aw_inb a1 4 = true then (if (FX6_isIn ((a2).toInt64) (0 : Int64) ((((h.1 75 (a1).toNatClampNeg) - (1 : Int32))).toInt64)) = 0 then some ((-12 : Int32), h) else (if aw_inb a1 4 = true then (if (h.1 74 (a1).toNatClampNeg) = 0 then (if aw_inb (((40 : Int32) * a1) + a2) 160 = true then some ((1 : Int32), (aw_sL h 76 ((((40 : Int32) * a1) + a2)).toNatClampNeg a3)) else none) else (if aw_inb (((40 : Int32) * a1) + a2) 160 = true then some ((1 : Int32), (aw_sL h 76 ((((40 : Int32) * a1) + a2)).toNatClampNeg (((a3).toInt32).toInt64))) else none)) else none)) else none)) else none))
set_option maxRecDepth 100000 in
set_option maxHeartbeats 4000000 in
theorem ctX6_put (a1 : Int32) (a2 : Int32) (a3 : Int64) (h : aw_H) (y : Int32 × aw_H) (hF : FX6_put a1 a2 a3 h = some y) : Ct 2 0 0 yX6_put cX6_put 5 (some .int) [.ref 71, .int a1, .int a2, .long a3] wL wR h (aw_D (some (.int y.1)) y.2) := by
  refine Ct.of (ls0 := [.ref 71, .int a1, .int a2, .long a3, .retAddr 0]) (by decide +kernel) rfl rfl (fun X C E hnm => ?_)
  have C : aw_C X RX6 cX6_put 5 2 0 0 := C
  unfold FX6_put at hF
  refine aw_iload_1 C dX6_put_0 ?_
  refine bw_S1i C dX6_put_1 kyX6_isSheet lX6_192 ksX6_isSheet rfl rfl (ctX6_isSheet a1 h _ rfl) ?_
  refine bw_if_ne (tgt := 10) C dX6_put_4 (by decide) hF (fun hF => ?_) (fun hF => ?_)
  · refine aw_aload_0 C dX6_put_10 ?_
    refine aw_getR C dX6_put_11 fX6_18 gX6_6 rfl rfl ?_
    refine aw_iload_1 C dX6_put_14 ?_
    obtain ⟨s1, hF⟩ := bw_side hF
    refine aw_iald C dX6_put_15 rfl (aw_ix s1) ?_
    refine aw_iconst C dX6_put_16 li_m1 ?_
    refine bw_icmp_ne (tgt := 23) C dX6_put_17 (by decide) hF (fun hF => ?_) (fun hF => ?_)
    · refine aw_iload_2 C dX6_put_23 ?_
      refine aw_i2l C dX6_put_24 ?_
      refine aw_lconst C dX6_put_25 ll_0 ?_
      refine aw_aload_0 C dX6_put_26 ?_
      refine aw_getR C dX6_put_27 fX6_21 gX6_7 rfl rfl ?_
      refine aw_iload_1 C dX6_put_30 ?_
      obtain ⟨s2, hF⟩ := bw_side hF
      refine aw_iald C dX6_put_31 rfl (aw_ix s2) ?_
      refine aw_iconst C dX6_put_32 li_1 ?_
      refine aw_isub C dX6_put_33 ?_
      refine aw_i2l C dX6_put_34 ?_
      refine bw_S3i C dX6_put_35 kyX6_isIn lX6_49 ksX6_isIn rfl rfl (ctX6_isIn ((a2).toInt64) (0 : Int64) ((((h.1 75 (a1).toNatClampNeg) - (1 : Int32))).toInt64) h _ rfl) ?_
      refine bw_if_ne (tgt := 44) C dX6_put_38 (by decide) hF (fun hF => ?_) (fun hF => ?_)
      · refine aw_aload_0 C dX6_put_44 ?_
        refine aw_getR C dX6_put_45 fX6_24 gX6_8 rfl rfl ?_
        refine aw_bipush C dX6_put_48 lb_40 ?_
        refine aw_iload_1 C dX6_put_50 ?_
        refine aw_imul C dX6_put_51 ?_
        refine aw_iload_2 C dX6_put_52 ?_
        refine aw_iadd C dX6_put_53 ?_
        refine aw_aload_0 C dX6_put_54 ?_
        refine aw_getR C dX6_put_55 fX6_18 gX6_6 rfl rfl ?_
        refine aw_iload_1 C dX6_put_58 ?_
        obtain ⟨s3, hF⟩ := bw_side hF
        refine aw_iald C dX6_put_59 rfl (aw_ix s3) ?_
        refine bw_if_ne (tgt := 67) C dX6_put_60 (by decide) hF (fun hF => ?_) (fun hF => ?_)
        · refine aw_lload_3 C dX6_put_67 ?_
          refine aw_l2i C dX6_put_68 ?_
          refine aw_i2l C dX6_put_69 ?_
          obtain ⟨s4, hF⟩ := bw_side hF
          refine aw_last C dX6_put_70 rfl (aw_ix s4) ?_
          refine aw_iconst C dX6_put_71 li_1 ?_
          obtain rfl := Option.some.inj hF
          exact aw_iret C E dX6_put_72 rfl rfl (bw_ret rfl)
        · refine aw_lload_3 C dX6_put_63 ?_
          refine aw_goto (tgt := 70) C dX6_put_64 (by decide) ?_
          obtain ⟨s5, hF⟩ := bw_side hF
          refine aw_last C dX6_put_70 rfl (aw_ix s5) ?_
          refine aw_iconst C dX6_put_71 li_1 ?_
          obtain rfl := Option.some.inj hF
          exact aw_iret C E dX6_put_72 rfl rfl (bw_ret rfl)
      · refine aw_bipush C dX6_put_41 lb_m12 ?_
        obtain rfl := Option.some.inj hF
        exact aw_iret C E dX6_put_43 rfl rfl (bw_ret rfl)
    · refine aw_bipush C dX6_put_20 lb_m11 ?_
      obtain rfl := Option.some.inj hF
      exact aw_iret C E dX6_put_22 rfl rfl (bw_ret rfl)
  · refine aw_bipush C dX6_put_7 lb_m2 ?_
    obtain rfl := Option.some.inj hF
    exact aw_iret C E dX6_put_9 rfl rfl (bw_ret rfl)
def FX6_item (a1 : Int32) (a2 : Int32) (h : aw_H) : Option (Int64) :=
  (if (FX6_isSheet a1) = 0 then some (-9223372036854775808 : Int64) else (if aw_inb a1 4 = true then (if (FX6_isIn ((a2).toInt64) (0 : Int64) ((((h.1 75 (a1).toNatClampNeg) - (1 : Int32))).toInt64)) = 0 then some (-9223372036854775808 : Int64) else ((FX6_itemOf a1 a2 h).bind (fun q2 => some q2))) else none))
set_option maxRecDepth 100000 in
set_option maxHeartbeats 4000000 in
theorem ctX6_item (a1 : Int32) (a2 : Int32) (h : aw_H) (y : Int64) (hF : FX6_item a1 a2 h = some y) : Ct 2 0 0 yX6_item cX6_item 3 (some .long) [.ref 71, .int a1, .int a2] wL wR h (aw_D (some (.long y)) h) := by
  refine Ct.of (ls0 := [.ref 71, .int a1, .int a2]) (by decide +kernel) rfl rfl (fun X C E hnm => ?_)
  have C : aw_C X RX6 cX6_item 3 2 0 0 := C
  unfold FX6_item at hF
  refine aw_iload_1 C dX6_item_0 ?_
  refine bw_S1i C dX6_item_1 kyX6_isSheet lX6_192 ksX6_isSheet rfl rfl (ctX6_isSheet a1 h _ rfl) ?_
  refine bw_if_eq (tgt := 34) C dX6_item_4 (by decide) hF (fun hF => ?_) (fun hF => ?_)
  · refine aw_ldc2 C dX6_item_34 nX6_136 ?_
    obtain rfl := Option.some.inj hF
    exact aw_lret C E dX6_item_37 rfl rfl (bw_ret rfl)
  · refine aw_iload_2 C dX6_item_7 ?_
    refine aw_i2l C dX6_item_8 ?_
    refine aw_lconst C dX6_item_9 ll_0 ?_
    refine aw_aload_0 C dX6_item_10 ?_
    refine aw_getR C dX6_item_11 fX6_21 gX6_7 rfl rfl ?_
    refine aw_iload_1 C dX6_item_14 ?_
    obtain ⟨s1, hF⟩ := bw_side hF
    refine aw_iald C dX6_item_15 rfl (aw_ix s1) ?_
    refine aw_iconst C dX6_item_16 li_1 ?_
    refine aw_isub C dX6_item_17 ?_
    refine aw_i2l C dX6_item_18 ?_
    refine bw_S3i C dX6_item_19 kyX6_isIn lX6_49 ksX6_isIn rfl rfl (ctX6_isIn ((a2).toInt64) (0 : Int64) ((((h.1 75 (a1).toNatClampNeg) - (1 : Int32))).toInt64) h _ rfl) ?_
    refine bw_if_eq (tgt := 34) C dX6_item_22 (by decide) hF (fun hF => ?_) (fun hF => ?_)
    · refine aw_ldc2 C dX6_item_34 nX6_136 ?_
      obtain rfl := Option.some.inj hF
      exact aw_lret C E dX6_item_37 rfl rfl (bw_ret rfl)
    · refine aw_aload_0 C dX6_item_25 ?_
      refine aw_iload_1 C dX6_item_26 ?_
      refine aw_iload_2 C dX6_item_27 ?_
      obtain ⟨q2, e3, hF⟩ := bw_bind hF
      refine bw_V2l C dX6_item_28 kyX6_itemOf lX6_186 kiX6_itemOf kvX6_itemOf (aw_rv C rfl rfl) rfl rfl (ctX6_itemOf a1 a2 h q2 e3) ?_
      refine aw_goto (tgt := 37) C dX6_item_31 (by decide) ?_
      obtain rfl := Option.some.inj hF
      exact aw_lret C E dX6_item_37 rfl rfl (bw_ret rfl)
def FX6_copy (a1 : Int32) (a2 : Int32) (a3 : Int32) (a4 : Int32) (a5 : Int32) (h : aw_H) : Option (Int32 × aw_H) :=
  (if (FX6_isSheet a1) = 0 then some ((-2 : Int32), h) else (if (FX6_isSheet a3) = 0 then some ((-2 : Int32), h) else (if aw_inb a1 4 = true then (if (h.1 74 (a1).toNatClampNeg) = (-1 : Int32) then some ((-11 : Int32), h) else (if aw_inb a3 4 = true then (if (h.1 74 (a3).toNatClampNeg) = (-1 : Int32) then some ((-11 : Int32), h) else (if aw_inb a1 4 = true then (if aw_inb a3 4 = true then (if (h.1 74 (a1).toNatClampNeg) = (h.1 74 (a3).toNatClampNeg) then (if a5 < 0 then some ((-12 : Int32), h) else (if a2 < 0 then some ((-12 : Int32), h) else (if a4 < 0 then some ((-12 : Int32), h) else (if aw_inb a1 4 = true then (if ((h.1 75 (a1).toNatClampNeg) - a5) < a2 then some ((-12 : Int32), h) else (if aw_inb a3 4 = true then (if a4 ≤ ((h.1 75 (a3).toNatClampNeg) - a5) then (if aw_cpok (((40 : Int32) * a1) + a2) (0 : Int32) a5 160 40 = true then (if aw_cpok (0 : Int32) (((40 : Int32) * a3) + a4) a5 40 160 = true then some (a5, (aw_cL (aw_cL h 76 81 ((((40 : Int32) * a1) + a2)).toNatClampNeg ((0 : Int32)).toNatClampNeg (a5).toNatClampNeg) 81 76 ((0 : Int32)).toNatClampNeg ((((40 : Int32) * a3) + a4)).toNatClampNeg (a5).toNatClampNeg)) else none) else none) else some ((-12 : Int32), h)) else none)) else none)))) else some ((-13 : Int32), h)) else none) else none)) else none)) else none)))
set_option maxRecDepth 100000 in
set_option maxHeartbeats 4000000 in
theorem ctX6_copy (a1 : Int32) (a2 : Int32) (a3 : Int32) (a4 : Int32) (a5 : Int32) (h : aw_H) (y : Int32 × aw_H) (hF : FX6_copy a1 a2 a3 a4 a5 h = some y) : Ct 2 0 0 yX6_copy cX6_copy 6 (some .int) [.ref 71, .int a1, .int a2, .int a3, .int a4, .int a5] wL wR h (aw_D (some (.int y.1)) y.2) := by
  refine Ct.of (ls0 := [.ref 71, .int a1, .int a2, .int a3, .int a4, .int a5]) (by decide +kernel) rfl rfl (fun X C E hnm => ?_)
  have C : aw_C X RX6 cX6_copy 6 2 0 0 := C
  unfold FX6_copy at hF
  refine aw_iload_1 C dX6_copy_0 ?_
  refine bw_S1i C dX6_copy_1 kyX6_isSheet lX6_192 ksX6_isSheet rfl rfl (ctX6_isSheet a1 h _ rfl) ?_
  refine bw_if_eq (tgt := 14) C dX6_copy_4 (by decide) hF (fun hF => ?_) (fun hF => ?_)
  · refine aw_bipush C dX6_copy_14 lb_m2 ?_
    obtain rfl := Option.some.inj hF
    exact aw_iret C E dX6_copy_16 rfl rfl (bw_ret rfl)
  · refine aw_iload_3 C dX6_copy_7 ?_
    refine bw_S1i C dX6_copy_8 kyX6_isSheet lX6_192 ksX6_isSheet rfl rfl (ctX6_isSheet a3 h _ rfl) ?_
    refine bw_if_ne (tgt := 17) C dX6_copy_11 (by decide) hF (fun hF => ?_) (fun hF => ?_)
    · refine aw_aload_0 C dX6_copy_17 ?_
      refine aw_getR C dX6_copy_18 fX6_18 gX6_6 rfl rfl ?_
      refine aw_iload_1 C dX6_copy_21 ?_
      obtain ⟨s1, hF⟩ := bw_side hF
      refine aw_iald C dX6_copy_22 rfl (aw_ix s1) ?_
      refine aw_iconst C dX6_copy_23 li_m1 ?_
      refine bw_icmp_eq (tgt := 37) C dX6_copy_24 (by decide) hF (fun hF => ?_) (fun hF => ?_)
      · refine aw_bipush C dX6_copy_37 lb_m11 ?_
        obtain rfl := Option.some.inj hF
        exact aw_iret C E dX6_copy_39 rfl rfl (bw_ret rfl)
      · refine aw_aload_0 C dX6_copy_27 ?_
        refine aw_getR C dX6_copy_28 fX6_18 gX6_6 rfl rfl ?_
        refine aw_iload_3 C dX6_copy_31 ?_
        obtain ⟨s2, hF⟩ := bw_side hF
        refine aw_iald C dX6_copy_32 rfl (aw_ix s2) ?_
        refine aw_iconst C dX6_copy_33 li_m1 ?_
        refine bw_icmp_ne (tgt := 40) C dX6_copy_34 (by decide) hF (fun hF => ?_) (fun hF => ?_)
        · refine aw_aload_0 C dX6_copy_40 ?_
          refine aw_getR C dX6_copy_41 fX6_18 gX6_6 rfl rfl ?_
          refine aw_iload_1 C dX6_copy_44 ?_
          obtain ⟨s3, hF⟩ := bw_side hF
          refine aw_iald C dX6_copy_45 rfl (aw_ix s3) ?_
          refine aw_aload_0 C dX6_copy_46 ?_
          refine aw_getR C dX6_copy_47 fX6_18 gX6_6 rfl rfl ?_
          refine aw_iload_3 C dX6_copy_50 ?_
          obtain ⟨s4, hF⟩ := bw_side hF
          refine aw_iald C dX6_copy_51 rfl (aw_ix s4) ?_
          refine bw_icmp_eq (tgt := 58) C dX6_copy_52 (by decide) hF (fun hF => ?_) (fun hF => ?_)
          · refine aw_iload_5 C dX6_copy_58 ?_
            refine bw_if_lt (tgt := 99) C dX6_copy_60 (by decide) hF (fun hF => ?_) (fun hF => ?_)
            · refine aw_bipush C dX6_copy_99 lb_m12 ?_
              obtain rfl := Option.some.inj hF
              exact aw_iret C E dX6_copy_101 rfl rfl (bw_ret rfl)
            · refine aw_iload_2 C dX6_copy_63 ?_
              refine bw_if_lt (tgt := 99) C dX6_copy_64 (by decide) hF (fun hF => ?_) (fun hF => ?_)
              · refine aw_bipush C dX6_copy_99 lb_m12 ?_
                obtain rfl := Option.some.inj hF
                exact aw_iret C E dX6_copy_101 rfl rfl (bw_ret rfl)
              · refine aw_iload_4 C dX6_copy_67 ?_
                refine bw_if_lt (tgt := 99) C dX6_copy_69 (by decide) hF (fun hF => ?_) (fun hF => ?_)
                · refine aw_bipush C dX6_copy_99 lb_m12 ?_
                  obtain rfl := Option.some.inj hF
                  exact aw_iret C E dX6_copy_101 rfl rfl (bw_ret rfl)
                · refine aw_iload_2 C dX6_copy_72 ?_
                  refine aw_aload_0 C dX6_copy_73 ?_
                  refine aw_getR C dX6_copy_74 fX6_21 gX6_7 rfl rfl ?_
                  refine aw_iload_1 C dX6_copy_77 ?_
                  obtain ⟨s5, hF⟩ := bw_side hF
                  refine aw_iald C dX6_copy_78 rfl (aw_ix s5) ?_
                  refine aw_iload_5 C dX6_copy_79 ?_
                  refine aw_isub C dX6_copy_81 ?_
                  refine bw_icmp_gt (tgt := 99) C dX6_copy_82 (by decide) hF (fun hF => ?_) (fun hF => ?_)
                  · refine aw_bipush C dX6_copy_99 lb_m12 ?_
                    obtain rfl := Option.some.inj hF
                    exact aw_iret C E dX6_copy_101 rfl rfl (bw_ret rfl)
                  · refine aw_iload_4 C dX6_copy_85 ?_
                    refine aw_aload_0 C dX6_copy_87 ?_
                    refine aw_getR C dX6_copy_88 fX6_21 gX6_7 rfl rfl ?_
                    refine aw_iload_3 C dX6_copy_91 ?_
                    obtain ⟨s6, hF⟩ := bw_side hF
                    refine aw_iald C dX6_copy_92 rfl (aw_ix s6) ?_
                    refine aw_iload_5 C dX6_copy_93 ?_
                    refine aw_isub C dX6_copy_95 ?_
                    refine bw_icmp_le (tgt := 102) C dX6_copy_96 (by decide) hF (fun hF => ?_) (fun hF => ?_)
                    · refine aw_aload_0 C dX6_copy_102 ?_
                      refine aw_getR C dX6_copy_103 fX6_24 gX6_8 rfl rfl ?_
                      refine aw_bipush C dX6_copy_106 lb_40 ?_
                      refine aw_iload_1 C dX6_copy_108 ?_
                      refine aw_imul C dX6_copy_109 ?_
                      refine aw_iload_2 C dX6_copy_110 ?_
                      refine aw_iadd C dX6_copy_111 ?_
                      refine aw_aload_0 C dX6_copy_112 ?_
                      refine aw_getR C dX6_copy_113 fX6_46 gX6_17 rfl rfl ?_
                      refine aw_iconst C dX6_copy_116 li_0 ?_
                      refine aw_iload_5 C dX6_copy_117 ?_
                      obtain ⟨s7, hF⟩ := bw_side hF
                      refine bw_copy_long C dX6_copy_119 lX6_287 rfl rfl rfl rfl s7 ?_
                      refine aw_aload_0 C dX6_copy_122 ?_
                      refine aw_getR C dX6_copy_123 fX6_46 gX6_17 rfl rfl ?_
                      refine aw_iconst C dX6_copy_126 li_0 ?_
                      refine aw_aload_0 C dX6_copy_127 ?_
                      refine aw_getR C dX6_copy_128 fX6_24 gX6_8 rfl rfl ?_
                      refine aw_bipush C dX6_copy_131 lb_40 ?_
                      refine aw_iload_3 C dX6_copy_133 ?_
                      refine aw_imul C dX6_copy_134 ?_
                      refine aw_iload_4 C dX6_copy_135 ?_
                      refine aw_iadd C dX6_copy_137 ?_
                      refine aw_iload_5 C dX6_copy_138 ?_
                      obtain ⟨s8, hF⟩ := bw_side hF
                      refine bw_copy_long C dX6_copy_140 lX6_287 rfl rfl rfl rfl s8 ?_
                      refine aw_iload_5 C dX6_copy_143 ?_
                      obtain rfl := Option.some.inj hF
                      exact aw_iret C E dX6_copy_145 rfl rfl (bw_ret rfl)
                    · refine aw_bipush C dX6_copy_99 lb_m12 ?_
                      obtain rfl := Option.some.inj hF
                      exact aw_iret C E dX6_copy_101 rfl rfl (bw_ret rfl)
          · refine aw_bipush C dX6_copy_55 lb_m13 ?_
            obtain rfl := Option.some.inj hF
            exact aw_iret C E dX6_copy_57 rfl rfl (bw_ret rfl)
        · refine aw_bipush C dX6_copy_37 lb_m11 ?_
          obtain rfl := Option.some.inj hF
          exact aw_iret C E dX6_copy_39 rfl rfl (bw_ret rfl)
    · refine aw_bipush C dX6_copy_14 lb_m2 ?_
      obtain rfl := Option.some.inj hF
      exact aw_iret C E dX6_copy_16 rfl rfl (bw_ret rfl)

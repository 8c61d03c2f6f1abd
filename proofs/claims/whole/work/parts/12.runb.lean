def FX3_isAsFastAs (a0 : Nat) (a1 : Nat) (h : aw_H) : Int32 :=
  (if (lg_cmp (h.2 a0 4) (h.2 a1 4)) = 0 then (if (lg_cmp (h.2 a0 5) (h.2 a1 5)) = 0 then (1 : Int32) else (0 : Int32)) else (0 : Int32))
set_option maxRecDepth 100000 in
set_option maxHeartbeats 4000000 in
theorem ctX3_isAsFastAs (a0 : Nat) (a1 : Nat) (h : aw_H) (f0 : aw_isW a0 = true) (f1 : aw_isW a1 = true) (y : Int32) (hF : FX3_isAsFastAs a0 a1 h = y) : Ct 0 0 0 yX3_isAsFastAs cX3_isAsFastAs 2 (some .boolean) [.ref a0, .ref a1] wL wR h (aw_D (some (.int y)) h) := by
  refine Ct.of (ls0 := [.ref a0, .ref a1]) (by decide +kernel) rfl rfl (fun X C E hnm => ?_)
  have C : aw_C X RX3 cX3_isAsFastAs 2 0 0 0 := C
  unfold FX3_isAsFastAs at hF
  refine aw_aload_0 C dX3_isAsFastAs_0 ?_
  refine aw_getL C dX3_isAsFastAs_1 fX3_25 gX3_4 (aw_w1 f0) ?_
  refine aw_aload_1 C dX3_isAsFastAs_4 ?_
  refine aw_getL C dX3_isAsFastAs_5 fX3_25 gX3_4 (aw_w1 f1) ?_
  refine aw_lcmp C dX3_isAsFastAs_8 ?_
  refine bw_if_ne (tgt := 28) C dX3_isAsFastAs_9 (by decide) hF (fun hF => ?_) (fun hF => ?_)
  · refine aw_iconst C dX3_isAsFastAs_28 li_0 ?_
    subst hF
    exact aw_zret C E rfl dX3_isAsFastAs_29 rfl rfl (bw_ret rfl)
  · refine aw_aload_0 C dX3_isAsFastAs_12 ?_
    refine aw_getL C dX3_isAsFastAs_13 fX3_29 gX3_5 (aw_w1 f0) ?_
    refine aw_aload_1 C dX3_isAsFastAs_16 ?_
    refine aw_getL C dX3_isAsFastAs_17 fX3_29 gX3_5 (aw_w1 f1) ?_
    refine aw_lcmp C dX3_isAsFastAs_20 ?_
    refine bw_if_ne (tgt := 28) C dX3_isAsFastAs_21 (by decide) hF (fun hF => ?_) (fun hF => ?_)
    · refine aw_iconst C dX3_isAsFastAs_28 li_0 ?_
      subst hF
      exact aw_zret C E rfl dX3_isAsFastAs_29 rfl rfl (bw_ret rfl)
    · refine aw_iconst C dX3_isAsFastAs_24 li_1 ?_
      refine aw_goto (tgt := 29) C dX3_isAsFastAs_25 (by decide) ?_
      subst hF
      exact aw_zret C E rfl dX3_isAsFastAs_29 rfl rfl (bw_ret rfl)
theorem bX3_isAsFastAs (a0 : Nat) (a1 : Nat) (h : aw_H) : FX3_isAsFastAs a0 a1 h = 0 ∨ FX3_isAsFastAs a0 a1 h = 1 := by
  unfold FX3_isAsFastAs
  repeat' split
  all_goals first | exact Or.inl rfl | exact Or.inr rfl
def FX3_wayAt (a0 : Nat) (a1 : Int32) (h : aw_H) : Option (Int64) :=
  ((FX5_cut ((a1).toInt64 * (h.2 a0 4)) (h.2 a0 5)).bind (fun q1 => (if (h.1 (a0 + 1) 0) = (1 : Int32) then some ((2 : Int64) * (((h.1 (a0 + 1) 3)).toInt64 + q1)) else (if (h.1 (a0 + 1) 0) = (2 : Int32) then some (((h.1 (a0 + 1) 3)).toInt64 + q1) else (if (h.1 (a0 + 1) 0) = (3 : Int32) then some ((((h.1 (a0 + 1) 3)).toInt64 + q1) + (((h.1 (a0 + 1) 1) * (a1 / (100 : Int32)))).toInt64) else (if (h.1 (a0 + 1) 0) = (4 : Int32) then some ((2 : Int64) * (((h.1 (a0 + 1) 3)).toInt64 + q1)) else (if (h.1 (a0 + 1) 0) = (5 : Int32) then some (((((h.1 (a0 + 1) 3)).toInt64 + q1) + (((h.1 (a0 + 1) 1) * (a1 / (100 : Int32)))).toInt64) - (((((h.1 (a0 + 1) 3)).toInt64 + q1) + (((h.1 (a0 + 1) 1) * (a1 / (100 : Int32)))).toInt64) - (((((h.1 (a0 + 1) 3)).toInt64 + q1) + (((h.1 (a0 + 1) 1) * (a1 / (100 : Int32)))).toInt64) / (64 : Int64)) * (64 : Int64))) else some (((h.1 (a0 + 1) 3)).toInt64 + q1))))))))
set_option maxRecDepth 100000 in
set_option maxHeartbeats 4000000 in
theorem ctX3_wayAt (a0 : Nat) (a1 : Int32) (h : aw_H) (f0 : aw_isW a0 = true) (y : Int64) (hF : FX3_wayAt a0 a1 h = some y) : Ct 1 0 0 yX3_wayAt cX3_wayAt 6 (some .long) [.ref a0, .int a1] wL wR h (aw_D (some (.long y)) h) := by
  refine Ct.of (ls0 := [.ref a0, .int a1, .retAddr 0, .retAddr 0, .retAddr 0, .retAddr 0]) (by decide +kernel) rfl rfl (fun X C E hnm => ?_)
  have C : aw_C X RX3 cX3_wayAt 6 1 0 0 := C
  unfold FX3_wayAt at hF
  refine aw_aload_0 C dX3_wayAt_0 ?_
  refine aw_getR C dX3_wayAt_1 fX3_9 gX3_0 (aw_w1 f0) (aw_wr0 f0) ?_
  refine aw_iconst C dX3_wayAt_4 li_3 ?_
  refine aw_iald C dX3_wayAt_5 (aw_wa0 f0) (aw_ixk (k := 3) (n := 4) rfl rfl) ?_
  refine aw_i2l C dX3_wayAt_6 ?_
  refine aw_iload_1 C dX3_wayAt_7 ?_
  refine aw_i2l C dX3_wayAt_8 ?_
  refine aw_aload_0 C dX3_wayAt_9 ?_
  refine aw_getL C dX3_wayAt_10 fX3_25 gX3_4 (aw_w1 f0) ?_
  refine aw_lmul C dX3_wayAt_13 ?_
  refine aw_aload_0 C dX3_wayAt_14 ?_
  refine aw_getL C dX3_wayAt_15 fX3_29 gX3_5 (aw_w1 f0) ?_
  obtain ⟨q1, e2, hF⟩ := bw_bind hF
  refine bw_N2l C dX3_wayAt_18 kyX5_cut lX3_53 ksX5_cut rfl rfl (ctX5_cut ((a1).toInt64 * (h.2 a0 4)) (h.2 a0 5) h q1 e2) ?_
  refine aw_ladd C dX3_wayAt_21 ?_
  refine aw_lstore_2 C dX3_wayAt_22 rfl rfl ?_
  refine aw_lload_2 C dX3_wayAt_23 ?_
  refine aw_aload_0 C dX3_wayAt_24 ?_
  refine aw_getR C dX3_wayAt_25 fX3_9 gX3_0 (aw_w1 f0) (aw_wr0 f0) ?_
  refine aw_iconst C dX3_wayAt_28 li_1 ?_
  refine aw_iald C dX3_wayAt_29 (aw_wa0 f0) (aw_ixk (k := 1) (n := 4) rfl rfl) ?_
  refine aw_iload_1 C dX3_wayAt_30 ?_
  refine aw_bipush C dX3_wayAt_31 lb_100 ?_
  refine aw_idiv C dX3_wayAt_33 (by decide) ?_
  refine aw_imul C dX3_wayAt_34 ?_
  refine aw_i2l C dX3_wayAt_35 ?_
  refine aw_ladd C dX3_wayAt_36 ?_
  refine aw_lstore_4 C dX3_wayAt_37 rfl rfl ?_
  refine aw_aload_0 C dX3_wayAt_39 ?_
  refine aw_getR C dX3_wayAt_40 fX3_9 gX3_0 (aw_w1 f0) (aw_wr0 f0) ?_
  refine aw_iconst C dX3_wayAt_43 li_0 ?_
  refine aw_iald C dX3_wayAt_44 (aw_wa0 f0) (aw_ixk (k := 0) (n := 4) rfl rfl) ?_
  rcases Decidable.em ((h.1 (a0 + 1) 0) = (1 : Int32)) with c3 | c3
  · rw [if_pos c3] at hF
    refine aw_tabIn (off := 35) (tgt := 80) C dX3_wayAt_45 (by rw [c3]; decide) (by rw [c3]; decide) (by rw [c3]; rfl) (by decide) ?_
    refine aw_ldc2 C dX3_wayAt_80 nX3_57 ?_
    refine aw_lload_2 C dX3_wayAt_83 ?_
    refine aw_lmul C dX3_wayAt_84 ?_
    obtain rfl := Option.some.inj hF
    exact aw_lret C E dX3_wayAt_85 rfl rfl (bw_ret rfl)
  rw [if_neg c3] at hF
  rcases Decidable.em ((h.1 (a0 + 1) 0) = (2 : Int32)) with c4 | c4
  · rw [if_pos c4] at hF
    refine aw_tabIn (off := 54) (tgt := 99) C dX3_wayAt_45 (by rw [c4]; decide) (by rw [c4]; decide) (by rw [c4]; rfl) (by decide) ?_
    refine aw_lload_2 C dX3_wayAt_99 ?_
    obtain rfl := Option.some.inj hF
    exact aw_lret C E dX3_wayAt_100 rfl rfl (bw_ret rfl)
  rw [if_neg c4] at hF
  rcases Decidable.em ((h.1 (a0 + 1) 0) = (3 : Int32)) with c5 | c5
  · rw [if_pos c5] at hF
    refine aw_tabIn (off := 41) (tgt := 86) C dX3_wayAt_45 (by rw [c5]; decide) (by rw [c5]; decide) (by rw [c5]; rfl) (by decide) ?_
    refine aw_lload_4 C dX3_wayAt_86 ?_
    obtain rfl := Option.some.inj hF
    exact aw_lret C E dX3_wayAt_88 rfl rfl (bw_ret rfl)
  rw [if_neg c5] at hF
  rcases Decidable.em ((h.1 (a0 + 1) 0) = (4 : Int32)) with c6 | c6
  · rw [if_pos c6] at hF
    refine aw_tabIn (off := 35) (tgt := 80) C dX3_wayAt_45 (by rw [c6]; decide) (by rw [c6]; decide) (by rw [c6]; rfl) (by decide) ?_
    refine aw_ldc2 C dX3_wayAt_80 nX3_57 ?_
    refine aw_lload_2 C dX3_wayAt_83 ?_
    refine aw_lmul C dX3_wayAt_84 ?_
    obtain rfl := Option.some.inj hF
    exact aw_lret C E dX3_wayAt_85 rfl rfl (bw_ret rfl)
  rw [if_neg c6] at hF
  rcases Decidable.em ((h.1 (a0 + 1) 0) = (5 : Int32)) with c7 | c7
  · rw [if_pos c7] at hF
    refine aw_tabIn (off := 44) (tgt := 89) C dX3_wayAt_45 (by rw [c7]; decide) (by rw [c7]; decide) (by rw [c7]; rfl) (by decide) ?_
    refine aw_lload_4 C dX3_wayAt_89 ?_
    refine aw_lload_4 C dX3_wayAt_91 ?_
    refine aw_ldc2 C dX3_wayAt_93 nX3_59 ?_
    refine aw_lrem C dX3_wayAt_96 (by decide) ?_
    refine aw_lsub C dX3_wayAt_97 ?_
    obtain rfl := Option.some.inj hF
    exact aw_lret C E dX3_wayAt_98 rfl rfl (bw_ret rfl)
  rw [if_neg c7] at hF
  refine aw_tabOut (tgt := 99) C dX3_wayAt_45 (by
      have zc3 := bw_lit (z := 1) (by decide) c3
      have zc4 := bw_lit (z := 2) (by decide) c4
      have zc5 := bw_lit (z := 3) (by decide) c5
      have zc6 := bw_lit (z := 4) (by decide) c6
      have zc7 := bw_lit (z := 5) (by decide) c7
      omega) (by decide) ?_
  refine aw_lload_2 C dX3_wayAt_99 ?_
  obtain rfl := Option.some.inj hF
  exact aw_lret C E dX3_wayAt_100 rfl rfl (bw_ret rfl)
def FX3_spot (a0 : Nat) (a1 : Int32) (h : aw_H) : Option (Int32) :=
  ((FX3_wayAt a0 a1 h).bind (fun q1 => some (((q1 - (q1 / (1024 : Int64)) * (1024 : Int64))).toInt32)))
set_option maxRecDepth 100000 in
set_option maxHeartbeats 4000000 in
theorem ctX3_spot (a0 : Nat) (a1 : Int32) (h : aw_H) (f0 : aw_isW a0 = true) (y : Int32) (hF : FX3_spot a0 a1 h = some y) : Ct 2 0 0 yX3_spot cX3_spot 2 (some .int) [.ref a0, .int a1] wL wR h (aw_D (some (.int y)) h) := by
  refine Ct.of (ls0 := [.ref a0, .int a1]) (by decide +kernel) rfl rfl (fun X C E hnm => ?_)
  have C : aw_C X RX3 cX3_spot 2 2 0 0 := C
  unfold FX3_spot at hF
  refine aw_aload_0 C dX3_spot_0 ?_
  refine aw_iload_1 C dX3_spot_1 ?_
  obtain ⟨q1, e2, hF⟩ := bw_bind hF
  refine bw_V1l C dX3_spot_2 kyX3_wayAt lX3_61 kiX3_wayAt kvX3_wayAt (aw_rv C (aw_w1 f0) rfl) rfl rfl (ctX3_wayAt a0 a1 h f0 q1 e2) ?_
  refine aw_ldc2 C dX3_spot_5 nX3_65 ?_
  refine aw_lrem C dX3_spot_8 (by decide) ?_
  refine aw_l2i C dX3_spot_9 ?_
  obtain rfl := Option.some.inj hF
  exact aw_iret C E dX3_spot_10 rfl rfl (bw_ret rfl)
def FX3_shapeAt (a0 : Nat) (a1 : Int32) (h : aw_H) : Int32 :=
  (if (512 : Int32) ≤ a1 then (if (h.1 (a0 + 1) 0) = (2 : Int32) then (FJ9_max_7cf53 (-(((h.1 (a0 + 1) 1) + (1 : Int32)) * (6553 : Int32))) (FJ9_min_7cf53 (((h.1 (a0 + 1) 1) + (1 : Int32)) * (6553 : Int32)) (-((a1 - (a1 / (512 : Int32)) * (512 : Int32)) * ((512 : Int32) - (a1 - (a1 / (512 : Int32)) * (512 : Int32))))))) else (if (h.1 (a0 + 1) 0) = (4 : Int32) then ((-((a1 - (a1 / (512 : Int32)) * (512 : Int32)) * ((512 : Int32) - (a1 - (a1 / (512 : Int32)) * (512 : Int32))))) / (2 : Int32)) else (-((a1 - (a1 / (512 : Int32)) * (512 : Int32)) * ((512 : Int32) - (a1 - (a1 / (512 : Int32)) * (512 : Int32))))))) else (if (h.1 (a0 + 1) 0) = (2 : Int32) then (FJ9_max_7cf53 (-(((h.1 (a0 + 1) 1) + (1 : Int32)) * (6553 : Int32))) (FJ9_min_7cf53 (((h.1 (a0 + 1) 1) + (1 : Int32)) * (6553 : Int32)) ((a1 - (a1 / (512 : Int32)) * (512 : Int32)) * ((512 : Int32) - (a1 - (a1 / (512 : Int32)) * (512 : Int32)))))) else (if (h.1 (a0 + 1) 0) = (4 : Int32) then (((a1 - (a1 / (512 : Int32)) * (512 : Int32)) * ((512 : Int32) - (a1 - (a1 / (512 : Int32)) * (512 : Int32)))) / (2 : Int32)) else ((a1 - (a1 / (512 : Int32)) * (512 : Int32)) * ((512 : Int32) - (a1 - (a1 / (512 : Int32)) * (512 : Int32)))))))
set_option maxRecDepth 100000 in
set_option maxHeartbeats 4000000 in
theorem ctX3_shapeAt (a0 : Nat) (a1 : Int32) (h : aw_H) (f0 : aw_isW a0 = true) (y : Int32) (hF : FX3_shapeAt a0 a1 h = y) : Ct 1 0 0 yX3_shapeAt cX3_shapeAt 6 (some .int) [.ref a0, .int a1] wL wR h (aw_D (some (.int y)) h) := by
  refine Ct.of (ls0 := [.ref a0, .int a1, .retAddr 0, .retAddr 0, .retAddr 0, .retAddr 0]) (by decide +kernel) rfl rfl (fun X C E hnm => ?_)
  have C : aw_C X RX3 cX3_shapeAt 6 1 0 0 := C
  unfold FX3_shapeAt at hF
  refine aw_iload_1 C dX3_shapeAt_0 ?_
  refine aw_sipush C dX3_shapeAt_1 ls_512 ?_
  refine aw_irem C dX3_shapeAt_4 (by decide) ?_
  refine aw_istore_2 C dX3_shapeAt_5 rfl rfl ?_
  refine aw_iload_2 C dX3_shapeAt_6 ?_
  refine aw_sipush C dX3_shapeAt_7 ls_512 ?_
  refine aw_iload_2 C dX3_shapeAt_10 ?_
  refine aw_isub C dX3_shapeAt_11 ?_
  refine aw_imul C dX3_shapeAt_12 ?_
  refine aw_istore_3 C dX3_shapeAt_13 rfl rfl ?_
  refine aw_iload_1 C dX3_shapeAt_14 ?_
  refine aw_sipush C dX3_shapeAt_15 ls_512 ?_
  refine bw_icmp_ge (tgt := 25) C dX3_shapeAt_18 (by decide) hF (fun hF => ?_) (fun hF => ?_)
  · refine aw_iload_3 C dX3_shapeAt_25 ?_
    refine aw_ineg C dX3_shapeAt_26 ?_
    refine aw_istore_4 C dX3_shapeAt_27 rfl rfl ?_
    refine aw_aload_0 C dX3_shapeAt_29 ?_
    refine aw_getR C dX3_shapeAt_30 fX3_9 gX3_0 (aw_w1 f0) (aw_wr0 f0) ?_
    refine aw_iconst C dX3_shapeAt_33 li_1 ?_
    refine aw_iald C dX3_shapeAt_34 (aw_wa0 f0) (aw_ixk (k := 1) (n := 4) rfl rfl) ?_
    refine aw_iconst C dX3_shapeAt_35 li_1 ?_
    refine aw_iadd C dX3_shapeAt_36 ?_
    refine aw_sipush C dX3_shapeAt_37 ls_6553 ?_
    refine aw_imul C dX3_shapeAt_40 ?_
    refine aw_istore_5 C dX3_shapeAt_41 rfl rfl ?_
    refine aw_aload_0 C dX3_shapeAt_43 ?_
    refine aw_getR C dX3_shapeAt_44 fX3_9 gX3_0 (aw_w1 f0) (aw_wr0 f0) ?_
    refine aw_iconst C dX3_shapeAt_47 li_0 ?_
    refine aw_iald C dX3_shapeAt_48 (aw_wa0 f0) (aw_ixk (k := 0) (n := 4) rfl rfl) ?_
    rcases Decidable.em ((h.1 (a0 + 1) 0) = (2 : Int32)) with c1 | c1
    · rw [if_pos c1] at hF
      refine aw_lookup (off := 27) (tgt := 76) C dX3_shapeAt_49 (by decide) (by rw [c1]; decide) (by decide) ?_
      refine aw_iload_5 C dX3_shapeAt_76 ?_
      refine aw_ineg C dX3_shapeAt_78 ?_
      refine aw_iload_5 C dX3_shapeAt_79 ?_
      refine aw_iload_4 C dX3_shapeAt_81 ?_
      refine bw_min C dX3_shapeAt_83 lX3_67 rfl rfl ?_
      refine bw_max C dX3_shapeAt_86 lX3_72 rfl rfl ?_
      subst hF
      exact aw_iret C E dX3_shapeAt_89 rfl rfl (bw_ret rfl)
    rw [if_neg c1] at hF
    rcases Decidable.em ((h.1 (a0 + 1) 0) = (4 : Int32)) with c2 | c2
    · rw [if_pos c2] at hF
      refine aw_lookup (off := 41) (tgt := 90) C dX3_shapeAt_49 (by decide) (by rw [c2]; decide) (by decide) ?_
      refine aw_iload_4 C dX3_shapeAt_90 ?_
      refine aw_iconst C dX3_shapeAt_92 li_2 ?_
      refine aw_idiv C dX3_shapeAt_93 (by decide) ?_
      subst hF
      exact aw_iret C E dX3_shapeAt_94 rfl rfl (bw_ret rfl)
    rw [if_neg c2] at hF
    refine aw_lookup (off := 46) (tgt := 95) C dX3_shapeAt_49 (by decide) ((lv_osw c1 (by decide)).trans ((lv_osw c2 (by decide)).trans rfl)) (by decide) ?_
    refine aw_iload_4 C dX3_shapeAt_95 ?_
    subst hF
    exact aw_iret C E dX3_shapeAt_97 rfl rfl (bw_ret rfl)
  · refine aw_iload_3 C dX3_shapeAt_21 ?_
    refine aw_goto (tgt := 27) C dX3_shapeAt_22 (by decide) ?_
    refine aw_istore_4 C dX3_shapeAt_27 rfl rfl ?_
    refine aw_aload_0 C dX3_shapeAt_29 ?_
    refine aw_getR C dX3_shapeAt_30 fX3_9 gX3_0 (aw_w1 f0) (aw_wr0 f0) ?_
    refine aw_iconst C dX3_shapeAt_33 li_1 ?_
    refine aw_iald C dX3_shapeAt_34 (aw_wa0 f0) (aw_ixk (k := 1) (n := 4) rfl rfl) ?_
    refine aw_iconst C dX3_shapeAt_35 li_1 ?_
    refine aw_iadd C dX3_shapeAt_36 ?_
    refine aw_sipush C dX3_shapeAt_37 ls_6553 ?_
    refine aw_imul C dX3_shapeAt_40 ?_
    refine aw_istore_5 C dX3_shapeAt_41 rfl rfl ?_
    refine aw_aload_0 C dX3_shapeAt_43 ?_
    refine aw_getR C dX3_shapeAt_44 fX3_9 gX3_0 (aw_w1 f0) (aw_wr0 f0) ?_
    refine aw_iconst C dX3_shapeAt_47 li_0 ?_
    refine aw_iald C dX3_shapeAt_48 (aw_wa0 f0) (aw_ixk (k := 0) (n := 4) rfl rfl) ?_
    rcases Decidable.em ((h.1 (a0 + 1) 0) = (2 : Int32)) with c3 | c3
    · rw [if_pos c3] at hF
      refine aw_lookup (off := 27) (tgt := 76) C dX3_shapeAt_49 (by decide) (by rw [c3]; decide) (by decide) ?_
      refine aw_iload_5 C dX3_shapeAt_76 ?_
      refine aw_ineg C dX3_shapeAt_78 ?_
      refine aw_iload_5 C dX3_shapeAt_79 ?_
      refine aw_iload_4 C dX3_shapeAt_81 ?_
      refine bw_min C dX3_shapeAt_83 lX3_67 rfl rfl ?_
      refine bw_max C dX3_shapeAt_86 lX3_72 rfl rfl ?_
      subst hF
      exact aw_iret C E dX3_shapeAt_89 rfl rfl (bw_ret rfl)
    rw [if_neg c3] at hF
    rcases Decidable.em ((h.1 (a0 + 1) 0) = (4 : Int32)) with c4 | c4
    · rw [if_pos c4] at hF
      refine aw_lookup (off := 41) (tgt := 90) C dX3_shapeAt_49 (by decide) (by rw [c4]; decide) (by decide) ?_
      refine aw_iload_4 C dX3_shapeAt_90 ?_
      refine aw_iconst C dX3_shapeAt_92 li_2 ?_
      refine aw_idiv C dX3_shapeAt_93 (by decide) ?_
      subst hF
      exact aw_iret C E dX3_shapeAt_94 rfl rfl (bw_ret rfl)
    rw [if_neg c4] at hF
    refine aw_lookup (off := 46) (tgt := 95) C dX3_shapeAt_49 (by decide) ((lv_osw c3 (by decide)).trans ((lv_osw c4 (by decide)).trans rfl)) (by decide) ?_
    refine aw_iload_4 C dX3_shapeAt_95 ?_
    subst hF
    exact aw_iret C E dX3_shapeAt_97 rfl rfl (bw_ret rfl)
def FX3_swing (a0 : Nat) (a1 : Int32) (h : aw_H) : Option (Int64) :=
  ((FX3_spot a0 a1 h).bind (fun q1 => some (((h.1 (a0 + 1) 2)).toInt64 * ((FX3_shapeAt a0 q1 h)).toInt64)))
set_option maxRecDepth 100000 in
set_option maxHeartbeats 4000000 in
theorem ctX3_swing (a0 : Nat) (a1 : Int32) (h : aw_H) (f0 : aw_isW a0 = true) (y : Int64) (hF : FX3_swing a0 a1 h = some y) : Ct 3 0 0 yX3_swing cX3_swing 2 (some .long) [.ref a0, .int a1] wL wR h (aw_D (some (.long y)) h) := by
  refine Ct.of (ls0 := [.ref a0, .int a1]) (by decide +kernel) rfl rfl (fun X C E hnm => ?_)
  have C : aw_C X RX3 cX3_swing 2 3 0 0 := C
  unfold FX3_swing at hF
  refine aw_aload_0 C dX3_swing_0 ?_
  refine aw_getR C dX3_swing_1 fX3_9 gX3_0 (aw_w1 f0) (aw_wr0 f0) ?_
  refine aw_iconst C dX3_swing_4 li_2 ?_
  refine aw_iald C dX3_swing_5 (aw_wa0 f0) (aw_ixk (k := 2) (n := 4) rfl rfl) ?_
  refine aw_i2l C dX3_swing_6 ?_
  refine aw_aload_0 C dX3_swing_7 ?_
  refine aw_aload_0 C dX3_swing_8 ?_
  refine aw_iload_1 C dX3_swing_9 ?_
  obtain ⟨q1, e2, hF⟩ := bw_bind hF
  refine bw_V1i C dX3_swing_10 kyX3_spot lX3_75 kiX3_spot kvX3_spot (aw_rv C (aw_w1 f0) rfl) rfl rfl (ctX3_spot a0 a1 h f0 q1 e2) ?_
  refine bw_V1i C dX3_swing_13 kyX3_shapeAt lX3_79 kiX3_shapeAt kvX3_shapeAt (aw_rv C (aw_w1 f0) rfl) rfl rfl (ctX3_shapeAt a0 q1 h f0 _ rfl) ?_
  refine aw_i2l C dX3_swing_16 ?_
  refine aw_lmul C dX3_swing_17 ?_
  obtain rfl := Option.some.inj hF
  exact aw_lret C E dX3_swing_18 rfl rfl (bw_ret rfl)
def BX4_become_a_2 (u2 : (Int32 × aw_H)) : Option ((Int32 × aw_H) ⊕ aw_H) :=
  (if (6 : Int32) ≤ u2.1 then some (Sum.inr (aw_sI (aw_sI (aw_sI u2.2 1 1 (u2.2.1 27 1)) 1 2 ((aw_sI u2.2 1 1 (u2.2.1 27 1)).1 27 2)) 1 3 ((aw_sI (aw_sI u2.2 1 1 (u2.2.1 27 1)) 1 2 ((aw_sI u2.2 1 1 (u2.2.1 27 1)).1 27 2)).1 27 3))) else (if aw_inb u2.1 6 = true then (if aw_inb u2.1 6 = true then ((FX3_become (3 + 4 * (u2.1).toNatClampNeg) (29 + 4 * (u2.1).toNatClampNeg) u2.2).bind (fun q3 => some (Sum.inl ((u2.1 + (1 : Int32)), q3)))) else none) else none))
def FX4_become_a (n : Nat) (h : aw_H) : Option (aw_H) :=
  aw_loop (BX4_become_a_2) n ((0 : Int32), h)
set_option maxRecDepth 100000 in
set_option maxHeartbeats 4000000 in
theorem ctX4_become_a (n : Nat) (h : aw_H) (y : aw_H) (hF : FX4_become_a n h = some y) : Ct 2 0 0 yX4_become cX4_become 3 none [.ref 1, .ref 27] wL wR h (aw_D (none) y) := by
  refine Ct.of (ls0 := [.ref 1, .ref 27, .retAddr 0]) (by decide +kernel) rfl rfl (fun X C E hnm => ?_)
  have C : aw_C X RX4 cX4_become 3 2 0 0 := C
  unfold FX4_become_a at hF
  refine aw_iconst C dX4_become_0 li_0 ?_
  refine aw_istore_2 C dX4_become_1 rfl rfl ?_
  refine aw_loop_rule (fun u2 : (Int32 × aw_H) => AW X 3 2 [.ref 1, .ref 27, .int u2.1] [] wL wR u2.2 0 0) (fun q => q = y) (fun u2 y2 hF hK => ?_) n ((0 : Int32), h) _ hF rfl
  unfold BX4_become_a_2 at hF
  refine aw_iload_2 C dX4_become_2 ?_
  refine aw_bipush C dX4_become_3 lb_6 ?_
  refine bw_icmp_ge (tgt := 29) C dX4_become_5 (by decide) hF (fun hF => ?_) (fun hF => ?_)
  · refine aw_aload_0 C dX4_become_29 ?_
    refine aw_aload_1 C dX4_become_30 ?_
    refine aw_getI C dX4_become_31 fX4_17 gX4_1 rfl ?_
    refine aw_putI C dX4_become_34 fX4_17 gX4_1 rfl ?_
    refine aw_aload_0 C dX4_become_37 ?_
    refine aw_aload_1 C dX4_become_38 ?_
    refine aw_getI C dX4_become_39 fX4_21 gX4_2 rfl ?_
    refine aw_putI C dX4_become_42 fX4_21 gX4_2 rfl ?_
    refine aw_aload_0 C dX4_become_45 ?_
    refine aw_aload_1 C dX4_become_46 ?_
    refine aw_getI C dX4_become_47 fX4_24 gX4_3 rfl ?_
    refine aw_putI C dX4_become_50 fX4_24 gX4_3 rfl ?_
    obtain rfl := Option.some.inj hF
    have hK : _ = y := hK
    subst hK
    exact aw_vret C E dX4_become_53 rfl rfl (bw_ret rfl)
  · refine aw_aload_0 C dX4_become_8 ?_
    refine aw_getR C dX4_become_9 fX4_11 gX4_0 rfl rfl ?_
    refine aw_iload_2 C dX4_become_12 ?_
    obtain ⟨s1, hF⟩ := bw_side hF
    refine aw_aald (t := 0) C dX4_become_13 (by decide) rfl (aw_ix s1) (aw_wh s1).1 ?_
    refine aw_aload_1 C dX4_become_14 ?_
    refine aw_getR C dX4_become_15 fX4_11 gX4_0 rfl rfl ?_
    refine aw_iload_2 C dX4_become_18 ?_
    obtain ⟨s2, hF⟩ := bw_side hF
    refine aw_aald (t := 0) C dX4_become_19 (by decide) rfl (aw_ix s2) (aw_wk s2).1 ?_
    obtain ⟨q3, e4, hF⟩ := bw_bind hF
    refine bw_V1v C dX4_become_20 kyX3_become lX4_28 kiX3_become kvX3_become (aw_rv C (aw_w1 (aw_wh s1).2) rfl) rfl rfl (ctX3_become (3 + 4 * (u2.1).toNatClampNeg) (29 + 4 * (u2.1).toNatClampNeg) u2.2 (aw_wh s1).2 (aw_wk s2).2 q3 e4) ?_
    refine aw_iinc_2 C dX4_become_23 li_1 rfl rfl ?_
    refine aw_goto (tgt := 2) C dX4_become_26 (by decide) ?_
    cases hF
    exact hK
def BX4_become_b_2 (u2 : (Int32 × aw_H)) : Option ((Int32 × aw_H) ⊕ aw_H) :=
  (if (6 : Int32) ≤ u2.1 then some (Sum.inr (aw_sI (aw_sI (aw_sI u2.2 27 1 (u2.2.1 1 1)) 27 2 ((aw_sI u2.2 27 1 (u2.2.1 1 1)).1 1 2)) 27 3 ((aw_sI (aw_sI u2.2 27 1 (u2.2.1 1 1)) 27 2 ((aw_sI u2.2 27 1 (u2.2.1 1 1)).1 1 2)).1 1 3))) else (if aw_inb u2.1 6 = true then (if aw_inb u2.1 6 = true then ((FX3_become (29 + 4 * (u2.1).toNatClampNeg) (3 + 4 * (u2.1).toNatClampNeg) u2.2).bind (fun q3 => some (Sum.inl ((u2.1 + (1 : Int32)), q3)))) else none) else none))
def FX4_become_b (n : Nat) (h : aw_H) : Option (aw_H) :=
  aw_loop (BX4_become_b_2) n ((0 : Int32), h)
set_option maxRecDepth 100000 in
set_option maxHeartbeats 4000000 in
theorem ctX4_become_b (n : Nat) (h : aw_H) (y : aw_H) (hF : FX4_become_b n h = some y) : Ct 2 0 0 yX4_become cX4_become 3 none [.ref 27, .ref 1] wL wR h (aw_D (none) y) := by
  refine Ct.of (ls0 := [.ref 27, .ref 1, .retAddr 0]) (by decide +kernel) rfl rfl (fun X C E hnm => ?_)
  have C : aw_C X RX4 cX4_become 3 2 0 0 := C
  unfold FX4_become_b at hF
  refine aw_iconst C dX4_become_0 li_0 ?_
  refine aw_istore_2 C dX4_become_1 rfl rfl ?_
  refine aw_loop_rule (fun u2 : (Int32 × aw_H) => AW X 3 2 [.ref 27, .ref 1, .int u2.1] [] wL wR u2.2 0 0) (fun q => q = y) (fun u2 y2 hF hK => ?_) n ((0 : Int32), h) _ hF rfl
  unfold BX4_become_b_2 at hF
  refine aw_iload_2 C dX4_become_2 ?_
  refine aw_bipush C dX4_become_3 lb_6 ?_
  refine bw_icmp_ge (tgt := 29) C dX4_become_5 (by decide) hF (fun hF => ?_) (fun hF => ?_)
  · refine aw_aload_0 C dX4_become_29 ?_
    refine aw_aload_1 C dX4_become_30 ?_
    refine aw_getI C dX4_become_31 fX4_17 gX4_1 rfl ?_
    refine aw_putI C dX4_become_34 fX4_17 gX4_1 rfl ?_
    refine aw_aload_0 C dX4_become_37 ?_
    refine aw_aload_1 C dX4_become_38 ?_
    refine aw_getI C dX4_become_39 fX4_21 gX4_2 rfl ?_
    refine aw_putI C dX4_become_42 fX4_21 gX4_2 rfl ?_
    refine aw_aload_0 C dX4_become_45 ?_
    refine aw_aload_1 C dX4_become_46 ?_
    refine aw_getI C dX4_become_47 fX4_24 gX4_3 rfl ?_
    refine aw_putI C dX4_become_50 fX4_24 gX4_3 rfl ?_
    obtain rfl := Option.some.inj hF
    have hK : _ = y := hK
    subst hK
    exact aw_vret C E dX4_become_53 rfl rfl (bw_ret rfl)
  · refine aw_aload_0 C dX4_become_8 ?_
    refine aw_getR C dX4_become_9 fX4_11 gX4_0 rfl rfl ?_
    refine aw_iload_2 C dX4_become_12 ?_
    obtain ⟨s1, hF⟩ := bw_side hF
    refine aw_aald (t := 0) C dX4_become_13 (by decide) rfl (aw_ix s1) (aw_wk s1).1 ?_
    refine aw_aload_1 C dX4_become_14 ?_
    refine aw_getR C dX4_become_15 fX4_11 gX4_0 rfl rfl ?_
    refine aw_iload_2 C dX4_become_18 ?_
    obtain ⟨s2, hF⟩ := bw_side hF
    refine aw_aald (t := 0) C dX4_become_19 (by decide) rfl (aw_ix s2) (aw_wh s2).1 ?_
    obtain ⟨q3, e4, hF⟩ := bw_bind hF
    refine bw_V1v C dX4_become_20 kyX3_become lX4_28 kiX3_become kvX3_become (aw_rv C (aw_w1 (aw_wk s1).2) rfl) rfl rfl (ctX3_become (29 + 4 * (u2.1).toNatClampNeg) (3 + 4 * (u2.1).toNatClampNeg) u2.2 (aw_wk s1).2 (aw_wh s2).2 q3 e4) ?_
    refine aw_iinc_2 C dX4_become_23 li_1 rfl rfl ?_
    refine aw_goto (tgt := 2) C dX4_become_26 (by decide) ?_
    cases hF
    exact hK
def FX4_wheelOf (a1 : Int32) (h : aw_H) : Option (Option Nat) :=
  (if a1 < 0 then some none else (if (h.1 1 1) ≤ a1 then some none else (if aw_inb a1 6 = true then some (some (3 + 4 * (a1).toNatClampNeg)) else none)))
set_option maxRecDepth 100000 in
set_option maxHeartbeats 4000000 in
theorem ctX4_wheelOf (a1 : Int32) (h : aw_H) (y : Option Nat) (hF : FX4_wheelOf a1 h = some y) : Ct 0 0 0 yX4_wheelOf cX4_wheelOf 2 (some (.object "TideWheels$Wheel")) [.ref 1, .int a1] wL wR h (aw_D (some (va_rf y)) h) := by
  refine Ct.of (ls0 := [.ref 1, .int a1]) (by decide +kernel) rfl rfl (fun X C E hnm => ?_)
  have C : aw_C X RX4 cX4_wheelOf 2 0 0 0 := C
  unfold FX4_wheelOf at hF
  refine aw_iload_1 C dX4_wheelOf_0 ?_
  refine bw_if_lt (tgt := 21) C dX4_wheelOf_1 (by decide) hF (fun hF => ?_) (fun hF => ?_)
  · refine aw_null C dX4_wheelOf_21 ?_
    obtain rfl := Option.some.inj hF
    exact aw_aretN C E dX4_wheelOf_22 rfl rfl (bw_ret rfl)
  · refine aw_iload_1 C dX4_wheelOf_4 ?_
    refine aw_aload_0 C dX4_wheelOf_5 ?_
    refine aw_getI C dX4_wheelOf_6 fX4_17 gX4_1 rfl ?_
    refine bw_icmp_ge (tgt := 21) C dX4_wheelOf_9 (by decide) hF (fun hF => ?_) (fun hF => ?_)
    · refine aw_null C dX4_wheelOf_21 ?_
      obtain rfl := Option.some.inj hF
      exact aw_aretN C E dX4_wheelOf_22 rfl rfl (bw_ret rfl)
    · refine aw_aload_0 C dX4_wheelOf_12 ?_
      refine aw_getR C dX4_wheelOf_13 fX4_11 gX4_0 rfl rfl ?_
      refine aw_iload_1 C dX4_wheelOf_16 ?_
      obtain ⟨s1, hF⟩ := bw_side hF
      refine aw_aald (t := 0) C dX4_wheelOf_17 (by decide) rfl (aw_ix s1) (aw_wh s1).1 ?_
      refine aw_goto (tgt := 22) C dX4_wheelOf_18 (by decide) ?_
      obtain rfl := Option.some.inj hF
      exact aw_aretR C E dX4_wheelOf_22 rfl rfl (bw_ret rfl)
def FX4_addWheel (n : Nat) (a1 : Int32) (a2 : Int32) (a3 : Int32) (a4 : Int32) (h : aw_H) : Option (Int32 × aw_H) :=
  (if (h.1 1 1) < (6 : Int32) then (if aw_inb (h.1 1 1) 6 = true then ((FX3_tune n (3 + 4 * ((h.1 1 1)).toNatClampNeg) ((aw_sI (aw_sI (aw_sI (aw_sI (aw_sI h ((3 + 4 * ((h.1 1 1)).toNatClampNeg) + 1) 0 a1) ((3 + 4 * ((h.1 1 1)).toNatClampNeg) + 1) 1 a2) ((3 + 4 * ((h.1 1 1)).toNatClampNeg) + 1) 2 a3) ((3 + 4 * ((h.1 1 1)).toNatClampNeg) + 1) 3 a4) (3 + 4 * ((h.1 1 1)).toNatClampNeg) 3 (0 : Int32)).1 1 2) (aw_sI (aw_sI (aw_sI (aw_sI (aw_sI h ((3 + 4 * ((h.1 1 1)).toNatClampNeg) + 1) 0 a1) ((3 + 4 * ((h.1 1 1)).toNatClampNeg) + 1) 1 a2) ((3 + 4 * ((h.1 1 1)).toNatClampNeg) + 1) 2 a3) ((3 + 4 * ((h.1 1 1)).toNatClampNeg) + 1) 3 a4) (3 + 4 * ((h.1 1 1)).toNatClampNeg) 3 (0 : Int32))).bind (fun q2 => some ((((aw_sI q2 1 1 ((q2.1 1 1) + (1 : Int32))).1 1 1) - (1 : Int32)), (aw_sI q2 1 1 ((q2.1 1 1) + (1 : Int32)))))) else none) else some ((-4 : Int32), h))
set_option maxRecDepth 100000 in
set_option maxHeartbeats 4000000 in
theorem ctX4_addWheel (n : Nat) (a1 : Int32) (a2 : Int32) (a3 : Int32) (a4 : Int32) (h : aw_H) (y : Int32 × aw_H) (hF : FX4_addWheel n a1 a2 a3 a4 h = some y) : Ct 3 0 0 yX4_addWheel cX4_addWheel 6 (some .int) [.ref 1, .int a1, .int a2, .int a3, .int a4] wL wR h (aw_D (some (.int y.1)) y.2) := by
  refine Ct.of (ls0 := [.ref 1, .int a1, .int a2, .int a3, .int a4, .retAddr 0]) (by decide +kernel) rfl rfl (fun X C E hnm => ?_)
  have C : aw_C X RX4 cX4_addWheel 6 3 0 0 := C
  unfold FX4_addWheel at hF
  refine aw_aload_0 C dX4_addWheel_0 ?_
  refine aw_getI C dX4_addWheel_1 fX4_17 gX4_1 rfl ?_
  refine aw_bipush C dX4_addWheel_4 lb_6 ?_
  refine bw_icmp_lt (tgt := 12) C dX4_addWheel_6 (by decide) hF (fun hF => ?_) (fun hF => ?_)
  · refine aw_aload_0 C dX4_addWheel_12 ?_
    refine aw_getR C dX4_addWheel_13 fX4_11 gX4_0 rfl rfl ?_
    refine aw_aload_0 C dX4_addWheel_16 ?_
    refine aw_getI C dX4_addWheel_17 fX4_17 gX4_1 rfl ?_
    obtain ⟨s1, hF⟩ := bw_side hF
    refine aw_aald (t := 0) C dX4_addWheel_20 (by decide) rfl (aw_ix s1) (aw_wh s1).1 ?_
    refine aw_astore_5 C dX4_addWheel_21 rfl rfl ?_
    refine aw_aload_5 C dX4_addWheel_23 ?_
    refine aw_getR C dX4_addWheel_25 fX4_32 gX3_0 (aw_w1 (aw_wh s1).2) (aw_wr0 (aw_wh s1).2) ?_
    refine aw_iconst C dX4_addWheel_28 li_0 ?_
    refine aw_iload_1 C dX4_addWheel_29 ?_
    refine aw_iast C dX4_addWheel_30 (aw_wa0 (aw_wh s1).2) (aw_ixk (k := 0) (n := 4) rfl rfl) ?_
    refine aw_aload_5 C dX4_addWheel_31 ?_
    refine aw_getR C dX4_addWheel_33 fX4_32 gX3_0 (aw_w1 (aw_wh s1).2) (aw_wr0 (aw_wh s1).2) ?_
    refine aw_iconst C dX4_addWheel_36 li_1 ?_
    refine aw_iload_2 C dX4_addWheel_37 ?_
    refine aw_iast C dX4_addWheel_38 (aw_wa0 (aw_wh s1).2) (aw_ixk (k := 1) (n := 4) rfl rfl) ?_
    refine aw_aload_5 C dX4_addWheel_39 ?_
    refine aw_getR C dX4_addWheel_41 fX4_32 gX3_0 (aw_w1 (aw_wh s1).2) (aw_wr0 (aw_wh s1).2) ?_
    refine aw_iconst C dX4_addWheel_44 li_2 ?_
    refine aw_iload_3 C dX4_addWheel_45 ?_
    refine aw_iast C dX4_addWheel_46 (aw_wa0 (aw_wh s1).2) (aw_ixk (k := 2) (n := 4) rfl rfl) ?_
    refine aw_aload_5 C dX4_addWheel_47 ?_
    refine aw_getR C dX4_addWheel_49 fX4_32 gX3_0 (aw_w1 (aw_wh s1).2) (aw_wr0 (aw_wh s1).2) ?_
    refine aw_iconst C dX4_addWheel_52 li_3 ?_
    refine aw_iload_4 C dX4_addWheel_53 ?_
    refine aw_iast C dX4_addWheel_55 (aw_wa0 (aw_wh s1).2) (aw_ixk (k := 3) (n := 4) rfl rfl) ?_
    refine aw_aload_5 C dX4_addWheel_56 ?_
    refine aw_iconst C dX4_addWheel_58 li_0 ?_
    refine aw_putI C dX4_addWheel_59 fX4_36 gX3_3 (aw_w1 (aw_wh s1).2) ?_
    refine aw_aload_5 C dX4_addWheel_62 ?_
    refine aw_aload_0 C dX4_addWheel_64 ?_
    refine aw_getI C dX4_addWheel_65 fX4_21 gX4_2 rfl ?_
    obtain ⟨q2, e3, hF⟩ := bw_bind hF
    refine bw_V1v C dX4_addWheel_68 kyX3_tune lX4_39 kiX3_tune kvX3_tune (aw_rv C (aw_w1 (aw_wh s1).2) rfl) rfl rfl (ctX3_tune n (3 + 4 * ((h.1 1 1)).toNatClampNeg) ((aw_sI (aw_sI (aw_sI (aw_sI (aw_sI h ((3 + 4 * ((h.1 1 1)).toNatClampNeg) + 1) 0 a1) ((3 + 4 * ((h.1 1 1)).toNatClampNeg) + 1) 1 a2) ((3 + 4 * ((h.1 1 1)).toNatClampNeg) + 1) 2 a3) ((3 + 4 * ((h.1 1 1)).toNatClampNeg) + 1) 3 a4) (3 + 4 * ((h.1 1 1)).toNatClampNeg) 3 (0 : Int32)).1 1 2) (aw_sI (aw_sI (aw_sI (aw_sI (aw_sI h ((3 + 4 * ((h.1 1 1)).toNatClampNeg) + 1) 0 a1) ((3 + 4 * ((h.1 1 1)).toNatClampNeg) + 1) 1 a2) ((3 + 4 * ((h.1 1 1)).toNatClampNeg) + 1) 2 a3) ((3 + 4 * ((h.1 1 1)).toNatClampNeg) + 1) 3 a4) (3 + 4 * ((h.1 1 1)).toNatClampNeg) 3 (0 : Int32)) (aw_wh s1).2 q2 e3) ?_
    refine aw_aload_0 C dX4_addWheel_71 ?_
    refine aw_dup C dX4_addWheel_72 rfl ?_
    refine aw_getI C dX4_addWheel_73 fX4_17 gX4_1 rfl ?_
    refine aw_iconst C dX4_addWheel_76 li_1 ?_
    refine aw_iadd C dX4_addWheel_77 ?_
    refine aw_putI C dX4_addWheel_78 fX4_17 gX4_1 rfl ?_
    refine aw_aload_0 C dX4_addWheel_81 ?_
    refine aw_getI C dX4_addWheel_82 fX4_17 gX4_1 rfl ?_
    refine aw_iconst C dX4_addWheel_85 li_1 ?_
    refine aw_isub C dX4_addWheel_86 ?_
    obtain rfl := Option.some.inj hF
    exact aw_iret C E dX4_addWheel_87 rfl rfl (bw_ret rfl)
  · refine aw_bipush C dX4_addWheel_9 lb_m4 ?_
    obtain rfl := Option.some.inj hF
    exact aw_iret C E dX4_addWheel_11 rfl rfl (bw_ret rfl)
def BX4_goAt_7 (n : Nat) (a1 : Int32) (u7 : (Int32 × aw_H)) : Option ((Int32 × aw_H) ⊕ aw_H) :=
  (if (u7.2.1 1 1) ≤ u7.1 then some (Sum.inr u7.2) else (if aw_inb u7.1 6 = true then ((FX3_tune n (3 + 4 * (u7.1).toNatClampNeg) a1 u7.2).bind (fun q2 => some (Sum.inl ((u7.1 + (1 : Int32)), q2)))) else none))
def FX4_goAt (n : Nat) (a1 : Int32) (h : aw_H) : Option (aw_H) :=
  aw_loop (BX4_goAt_7 n a1) n ((0 : Int32), (aw_sI h 1 2 a1))
set_option maxRecDepth 100000 in
set_option maxHeartbeats 4000000 in
theorem ctX4_goAt (n : Nat) (a1 : Int32) (h : aw_H) (y : aw_H) (hF : FX4_goAt n a1 h = some y) : Ct 3 0 0 yX4_goAt cX4_goAt 3 none [.ref 1, .int a1] wL wR h (aw_D (none) y) := by
  refine Ct.of (ls0 := [.ref 1, .int a1, .retAddr 0]) (by decide +kernel) rfl rfl (fun X C E hnm => ?_)
  have C : aw_C X RX4 cX4_goAt 3 3 0 0 := C
  unfold FX4_goAt at hF
  refine aw_aload_0 C dX4_goAt_0 ?_
  refine aw_iload_1 C dX4_goAt_1 ?_
  refine aw_putI C dX4_goAt_2 fX4_21 gX4_2 rfl ?_
  refine aw_iconst C dX4_goAt_5 li_0 ?_
  refine aw_istore_2 C dX4_goAt_6 rfl rfl ?_
  refine aw_loop_rule (fun u7 : (Int32 × aw_H) => AW X 3 7 [.ref 1, .int a1, .int u7.1] [] wL wR u7.2 0 0) (fun q => q = y) (fun u7 y7 hF hK => ?_) n ((0 : Int32), (aw_sI h 1 2 a1)) _ hF rfl
  unfold BX4_goAt_7 at hF
  refine aw_iload_2 C dX4_goAt_7 ?_
  refine aw_aload_0 C dX4_goAt_8 ?_
  refine aw_getI C dX4_goAt_9 fX4_17 gX4_1 rfl ?_
  refine bw_icmp_ge (tgt := 31) C dX4_goAt_12 (by decide) hF (fun hF => ?_) (fun hF => ?_)
  · obtain rfl := Option.some.inj hF
    have hK : _ = y := hK
    subst hK
    exact aw_vret C E dX4_goAt_31 rfl rfl (bw_ret rfl)
  · refine aw_aload_0 C dX4_goAt_15 ?_
    refine aw_getR C dX4_goAt_16 fX4_11 gX4_0 rfl rfl ?_
    refine aw_iload_2 C dX4_goAt_19 ?_
    obtain ⟨s1, hF⟩ := bw_side hF
    refine aw_aald (t := 0) C dX4_goAt_20 (by decide) rfl (aw_ix s1) (aw_wh s1).1 ?_
    refine aw_iload_1 C dX4_goAt_21 ?_
    obtain ⟨q2, e3, hF⟩ := bw_bind hF
    refine bw_V1v C dX4_goAt_22 kyX3_tune lX4_39 kiX3_tune kvX3_tune (aw_rv C (aw_w1 (aw_wh s1).2) rfl) rfl rfl (ctX3_tune n (3 + 4 * (u7.1).toNatClampNeg) a1 u7.2 (aw_wh s1).2 q2 e3) ?_
    refine aw_iinc_2 C dX4_goAt_25 li_1 rfl rfl ?_
    refine aw_goto (tgt := 7) C dX4_goAt_28 (by decide) ?_
    cases hF
    exact hK
def BX4_level_5 (a1 : Int32) (h : aw_H) (u5 : (Int64 × Int32)) : Option ((Int64 × Int32) ⊕ Int64) :=
  (if (h.1 1 1) ≤ u5.2 then some (Sum.inr u5.1) else (if aw_inb u5.2 6 = true then ((FX3_swing (3 + 4 * (u5.2).toNatClampNeg) a1 h).bind (fun q2 => some (Sum.inl ((u5.1 + q2), (u5.2 + (1 : Int32)))))) else none))
def FX4_level (n : Nat) (a1 : Int32) (h : aw_H) : Option (Int64) :=
  aw_loop (BX4_level_5 a1 h) n ((0 : Int64), (0 : Int32))
set_option maxRecDepth 100000 in
set_option maxHeartbeats 4000000 in
theorem ctX4_level (n : Nat) (a1 : Int32) (h : aw_H) (y : Int64) (hF : FX4_level n a1 h = some y) : Ct 4 0 0 yX4_level cX4_level 5 (some .long) [.ref 1, .int a1] wL wR h (aw_D (some (.long y)) h) := by
  refine Ct.of (ls0 := [.ref 1, .int a1, .retAddr 0, .retAddr 0, .retAddr 0]) (by decide +kernel) rfl rfl (fun X C E hnm => ?_)
  have C : aw_C X RX4 cX4_level 5 4 0 0 := C
  unfold FX4_level at hF
  refine aw_lconst C dX4_level_0 ll_0 ?_
  refine aw_lstore_2 C dX4_level_1 rfl rfl ?_
  refine aw_iconst C dX4_level_2 li_0 ?_
  refine aw_istore_4 C dX4_level_3 rfl rfl ?_
  refine aw_loop_rule (fun u5 : (Int64 × Int32) => AW X 5 5 [.ref 1, .int a1, .long u5.1, .retAddr 0, .int u5.2] [] wL wR h 0 0) (fun q => q = y) (fun u5 y5 hF hK => ?_) n ((0 : Int64), (0 : Int32)) _ hF rfl
  unfold BX4_level_5 at hF
  refine aw_iload_4 C dX4_level_5 ?_
  refine aw_aload_0 C dX4_level_7 ?_
  refine aw_getI C dX4_level_8 fX4_17 gX4_1 rfl ?_
  refine bw_icmp_ge (tgt := 34) C dX4_level_11 (by decide) hF (fun hF => ?_) (fun hF => ?_)
  · refine aw_lload_2 C dX4_level_34 ?_
    obtain rfl := Option.some.inj hF
    have hK : _ = y := hK
    subst hK
    exact aw_lret C E dX4_level_35 rfl rfl (bw_ret rfl)
  · refine aw_lload_2 C dX4_level_14 ?_
    refine aw_aload_0 C dX4_level_15 ?_
    refine aw_getR C dX4_level_16 fX4_11 gX4_0 rfl rfl ?_
    refine aw_iload_4 C dX4_level_19 ?_
    obtain ⟨s1, hF⟩ := bw_side hF
    refine aw_aald (t := 0) C dX4_level_21 (by decide) rfl (aw_ix s1) (aw_wh s1).1 ?_
    refine aw_iload_1 C dX4_level_22 ?_
    obtain ⟨q2, e3, hF⟩ := bw_bind hF
    refine bw_V1l C dX4_level_23 kyX3_swing lX4_43 kiX3_swing kvX3_swing (aw_rv C (aw_w1 (aw_wh s1).2) rfl) rfl rfl (ctX3_swing (3 + 4 * (u5.2).toNatClampNeg) a1 h (aw_wh s1).2 q2 e3) ?_
    refine aw_ladd C dX4_level_26 ?_
    refine aw_lstore_2 C dX4_level_27 rfl rfl ?_
    refine aw_iinc_4 C dX4_level_28 li_1 rfl rfl ?_
    refine aw_goto (tgt := 5) C dX4_level_31 (by decide) ?_
    cases hF
    exact hK
def BX4_likeOnes_4 (a1 : Nat) (h : aw_H) (u4 : (Int32 × Int32)) : Option ((Int32 × Int32) ⊕ Int32) :=
  (if (h.1 1 1) ≤ u4.2 then some (Sum.inr u4.1) else (if aw_inb u4.2 6 = true then (if (FX3_isAsFastAs (3 + 4 * (u4.2).toNatClampNeg) a1 h) = 0 then some (Sum.inl (u4.1, (u4.2 + (1 : Int32)))) else some (Sum.inl ((u4.1 ||| ((1 : Int32) <<< (u4.2 &&& 31))), (u4.2 + (1 : Int32))))) else none))
def FX4_likeOnes (n : Nat) (a1 : Nat) (h : aw_H) : Option (Int32) :=
  aw_loop (BX4_likeOnes_4 a1 h) n ((0 : Int32), (0 : Int32))
set_option maxRecDepth 100000 in
set_option maxHeartbeats 4000000 in
theorem ctX4_likeOnes (n : Nat) (a1 : Nat) (h : aw_H) (f1 : aw_isW a1 = true) (y : Int32) (hF : FX4_likeOnes n a1 h = some y) : Ct 1 0 0 yX4_likeOnes cX4_likeOnes 4 (some .int) [.ref 1, .ref a1] wL wR h (aw_D (some (.int y)) h) := by
  refine Ct.of (ls0 := [.ref 1, .ref a1, .retAddr 0, .retAddr 0]) (by decide +kernel) rfl rfl (fun X C E hnm => ?_)
  have C : aw_C X RX4 cX4_likeOnes 4 1 0 0 := C
  unfold FX4_likeOnes at hF
  refine aw_iconst C dX4_likeOnes_0 li_0 ?_
  refine aw_istore_2 C dX4_likeOnes_1 rfl rfl ?_
  refine aw_iconst C dX4_likeOnes_2 li_0 ?_
  refine aw_istore_3 C dX4_likeOnes_3 rfl rfl ?_
  refine aw_loop_rule (fun u4 : (Int32 × Int32) => AW X 4 4 [.ref 1, .ref a1, .int u4.1, .int u4.2] [] wL wR h 0 0) (fun q => q = y) (fun u4 y4 hF hK => ?_) n ((0 : Int32), (0 : Int32)) _ hF rfl
  unfold BX4_likeOnes_4 at hF
  refine aw_iload_3 C dX4_likeOnes_4 ?_
  refine aw_aload_0 C dX4_likeOnes_5 ?_
  refine aw_getI C dX4_likeOnes_6 fX4_17 gX4_1 rfl ?_
  refine bw_icmp_ge (tgt := 37) C dX4_likeOnes_9 (by decide) hF (fun hF => ?_) (fun hF => ?_)
  · refine aw_iload_2 C dX4_likeOnes_37 ?_
    obtain rfl := Option.some.inj hF
    have hK : _ = y := hK
    subst hK
    exact aw_iret C E dX4_likeOnes_38 rfl rfl (bw_ret rfl)
  · refine aw_aload_0 C dX4_likeOnes_12 ?_
    refine aw_getR C dX4_likeOnes_13 fX4_11 gX4_0 rfl rfl ?_
    refine aw_iload_3 C dX4_likeOnes_16 ?_
    obtain ⟨s1, hF⟩ := bw_side hF
    refine aw_aald (t := 0) C dX4_likeOnes_17 (by decide) rfl (aw_ix s1) (aw_wh s1).1 ?_
    refine aw_aload_1 C dX4_likeOnes_18 ?_
    refine bw_V1i C dX4_likeOnes_19 kyX3_isAsFastAs lX4_47 kiX3_isAsFastAs kvX3_isAsFastAs (aw_rv C (aw_w1 (aw_wh s1).2) rfl) rfl rfl (ctX3_isAsFastAs (3 + 4 * (u4.2).toNatClampNeg) a1 h (aw_wh s1).2 f1 _ rfl) ?_
    refine bw_if_eq (tgt := 31) C dX4_likeOnes_22 (by decide) hF (fun hF => ?_) (fun hF => ?_)
    · refine aw_iinc_3 C dX4_likeOnes_31 li_1 rfl rfl ?_
      refine aw_goto (tgt := 4) C dX4_likeOnes_34 (by decide) ?_
      cases hF
      exact hK
    · refine aw_iload_2 C dX4_likeOnes_25 ?_
      refine aw_iconst C dX4_likeOnes_26 li_1 ?_
      refine aw_iload_3 C dX4_likeOnes_27 ?_
      refine aw_ishl C dX4_likeOnes_28 ?_
      refine aw_ior C dX4_likeOnes_29 ?_
      refine aw_istore_2 C dX4_likeOnes_30 rfl rfl ?_
      refine aw_iinc_3 C dX4_likeOnes_31 li_1 rfl rfl ?_
      refine aw_goto (tgt := 4) C dX4_likeOnes_34 (by decide) ?_
      cases hF
      exact hK
def BX4_groups_4 (n : Nat) (h : aw_H) (u4 : (Int32 × Int32)) : Option ((Int32 × Int32) ⊕ Int32) :=
  (if (h.1 1 1) ≤ u4.2 then some (Sum.inr u4.1) else (if aw_inb u4.2 6 = true then ((FX4_likeOnes n (3 + 4 * (u4.2).toNatClampNeg) h).bind (fun q2 => (if (q2 &&& (((1 : Int32) <<< (u4.2 &&& 31)) - (1 : Int32))) = 0 then some (Sum.inl ((u4.1 + (1 : Int32)), (u4.2 + (1 : Int32)))) else some (Sum.inl (u4.1, (u4.2 + (1 : Int32))))))) else none))
def FX4_groups (n : Nat) (h : aw_H) : Option (Int32) :=
  aw_loop (BX4_groups_4 n h) n ((0 : Int32), (0 : Int32))
set_option maxRecDepth 100000 in
set_option maxHeartbeats 4000000 in
theorem ctX4_groups (n : Nat) (h : aw_H) (y : Int32) (hF : FX4_groups n h = some y) : Ct 2 0 0 yX4_groups cX4_groups 3 (some .int) [.ref 1] wL wR h (aw_D (some (.int y)) h) := by
  refine Ct.of (ls0 := [.ref 1, .retAddr 0, .retAddr 0]) (by decide +kernel) rfl rfl (fun X C E hnm => ?_)
  have C : aw_C X RX4 cX4_groups 3 2 0 0 := C
  unfold FX4_groups at hF
  refine aw_iconst C dX4_groups_0 li_0 ?_
  refine aw_istore_1 C dX4_groups_1 rfl rfl ?_
  refine aw_iconst C dX4_groups_2 li_0 ?_
  refine aw_istore_2 C dX4_groups_3 rfl rfl ?_
  refine aw_loop_rule (fun u4 : (Int32 × Int32) => AW X 3 4 [.ref 1, .int u4.1, .int u4.2] [] wL wR h 0 0) (fun q => q = y) (fun u4 y4 hF hK => ?_) n ((0 : Int32), (0 : Int32)) _ hF rfl
  unfold BX4_groups_4 at hF
  refine aw_iload_2 C dX4_groups_4 ?_
  refine aw_aload_0 C dX4_groups_5 ?_
  refine aw_getI C dX4_groups_6 fX4_17 gX4_1 rfl ?_
  refine bw_icmp_ge (tgt := 40) C dX4_groups_9 (by decide) hF (fun hF => ?_) (fun hF => ?_)
  · refine aw_iload_1 C dX4_groups_40 ?_
    obtain rfl := Option.some.inj hF
    have hK : _ = y := hK
    subst hK
    exact aw_iret C E dX4_groups_41 rfl rfl (bw_ret rfl)
  · refine aw_aload_0 C dX4_groups_12 ?_
    refine aw_aload_0 C dX4_groups_13 ?_
    refine aw_getR C dX4_groups_14 fX4_11 gX4_0 rfl rfl ?_
    refine aw_iload_2 C dX4_groups_17 ?_
    obtain ⟨s1, hF⟩ := bw_side hF
    refine aw_aald (t := 0) C dX4_groups_18 (by decide) rfl (aw_ix s1) (aw_wh s1).1 ?_
    obtain ⟨q2, e3, hF⟩ := bw_bind hF
    refine bw_V1i C dX4_groups_19 kyX4_likeOnes lX4_51 kiX4_likeOnes kvX4_likeOnes (aw_rv C rfl rfl) rfl rfl (ctX4_likeOnes n (3 + 4 * (u4.2).toNatClampNeg) h (aw_wh s1).2 q2 e3) ?_
    refine aw_iconst C dX4_groups_22 li_1 ?_
    refine aw_iload_2 C dX4_groups_23 ?_
    refine aw_ishl C dX4_groups_24 ?_
    refine aw_iconst C dX4_groups_25 li_1 ?_
    refine aw_isub C dX4_groups_26 ?_
    refine aw_iand C dX4_groups_27 ?_
    refine bw_if_ne (tgt := 34) C dX4_groups_28 (by decide) hF (fun hF => ?_) (fun hF => ?_)
    · refine aw_iinc_2 C dX4_groups_34 li_1 rfl rfl ?_
      refine aw_goto (tgt := 4) C dX4_groups_37 (by decide) ?_
      cases hF
      exact hK
    · refine aw_iinc_1 C dX4_groups_31 li_1 rfl rfl ?_
      refine aw_iinc_2 C dX4_groups_34 li_1 rfl rfl ?_
      refine aw_goto (tgt := 4) C dX4_groups_37 (by decide) ?_
      cases hF
      exact hK
def BX4_pairsOfAll_4 (h : aw_H) (u4 : (Int32 × Int32)) : Option ((Int32 × Int32) ⊕ Int32) :=
  (if (h.1 1 1) ≤ u4.2 then some (Sum.inr u4.1) else (if aw_inb u4.2 6 = true then some (Sum.inl ((u4.1 + (h.1 (3 + 4 * (u4.2).toNatClampNeg) 3)), (u4.2 + (1 : Int32)))) else none))
def FX4_pairsOfAll (n : Nat) (h : aw_H) : Option (Int32) :=
  aw_loop (BX4_pairsOfAll_4 h) n ((0 : Int32), (0 : Int32))
set_option maxRecDepth 100000 in
set_option maxHeartbeats 4000000 in
theorem ctX4_pairsOfAll (n : Nat) (h : aw_H) (y : Int32) (hF : FX4_pairsOfAll n h = some y) : Ct 0 0 0 yX4_pairsOfAll cX4_pairsOfAll 3 (some .int) [.ref 1] wL wR h (aw_D (some (.int y)) h) := by
  refine Ct.of (ls0 := [.ref 1, .retAddr 0, .retAddr 0]) (by decide +kernel) rfl rfl (fun X C E hnm => ?_)
  have C : aw_C X RX4 cX4_pairsOfAll 3 0 0 0 := C
  unfold FX4_pairsOfAll at hF
  refine aw_iconst C dX4_pairsOfAll_0 li_0 ?_
  refine aw_istore_1 C dX4_pairsOfAll_1 rfl rfl ?_
  refine aw_iconst C dX4_pairsOfAll_2 li_0 ?_
  refine aw_istore_2 C dX4_pairsOfAll_3 rfl rfl ?_
  refine aw_loop_rule (fun u4 : (Int32 × Int32) => AW X 3 4 [.ref 1, .int u4.1, .int u4.2] [] wL wR h 0 0) (fun q => q = y) (fun u4 y4 hF hK => ?_) n ((0 : Int32), (0 : Int32)) _ hF rfl
  unfold BX4_pairsOfAll_4 at hF
  refine aw_iload_2 C dX4_pairsOfAll_4 ?_
  refine aw_aload_0 C dX4_pairsOfAll_5 ?_
  refine aw_getI C dX4_pairsOfAll_6 fX4_17 gX4_1 rfl ?_
  refine bw_icmp_ge (tgt := 30) C dX4_pairsOfAll_9 (by decide) hF (fun hF => ?_) (fun hF => ?_)
  · refine aw_iload_1 C dX4_pairsOfAll_30 ?_
    obtain rfl := Option.some.inj hF
    have hK : _ = y := hK
    subst hK
    exact aw_iret C E dX4_pairsOfAll_31 rfl rfl (bw_ret rfl)
  · refine aw_iload_1 C dX4_pairsOfAll_12 ?_
    refine aw_aload_0 C dX4_pairsOfAll_13 ?_
    refine aw_getR C dX4_pairsOfAll_14 fX4_11 gX4_0 rfl rfl ?_
    refine aw_iload_2 C dX4_pairsOfAll_17 ?_
    obtain ⟨s1, hF⟩ := bw_side hF
    refine aw_aald (t := 0) C dX4_pairsOfAll_18 (by decide) rfl (aw_ix s1) (aw_wh s1).1 ?_
    refine aw_getI C dX4_pairsOfAll_19 fX4_36 gX3_3 (aw_w1 (aw_wh s1).2) ?_
    refine aw_iadd C dX4_pairsOfAll_22 ?_
    refine aw_istore_1 C dX4_pairsOfAll_23 rfl rfl ?_
    refine aw_iinc_2 C dX4_pairsOfAll_24 li_1 rfl rfl ?_
    refine aw_goto (tgt := 4) C dX4_pairsOfAll_27 (by decide) ?_
    cases hF
    exact hK
def BX4_jams_4 (n : Nat) (h : aw_H) (u4 : (Int32 × Int32)) : Option ((Int32 × Int32) ⊕ Int32) :=
  (if (h.1 1 1) ≤ u4.2 then some (Sum.inr u4.1) else (if aw_inb u4.2 6 = true then ((FX3_jammed n (3 + 4 * (u4.2).toNatClampNeg) h).bind (fun q2 => (if q2 = (-1 : Int32) then some (Sum.inl (u4.1, (u4.2 + (1 : Int32)))) else some (Sum.inl ((u4.1 + (1 : Int32)), (u4.2 + (1 : Int32))))))) else none))
def FX4_jams (n : Nat) (h : aw_H) : Option (Int32) :=
  aw_loop (BX4_jams_4 n h) n ((0 : Int32), (0 : Int32))
set_option maxRecDepth 100000 in
set_option maxHeartbeats 4000000 in
theorem ctX4_jams (n : Nat) (h : aw_H) (y : Int32) (hF : FX4_jams n h = some y) : Ct 2 0 0 yX4_jams cX4_jams 3 (some .int) [.ref 1] wL wR h (aw_D (some (.int y)) h) := by
  refine Ct.of (ls0 := [.ref 1, .retAddr 0, .retAddr 0]) (by decide +kernel) rfl rfl (fun X C E hnm => ?_)
  have C : aw_C X RX4 cX4_jams 3 2 0 0 := C
  unfold FX4_jams at hF
  refine aw_iconst C dX4_jams_0 li_0 ?_
  refine aw_istore_1 C dX4_jams_1 rfl rfl ?_
  refine aw_iconst C dX4_jams_2 li_0 ?_
  refine aw_istore_2 C dX4_jams_3 rfl rfl ?_
  refine aw_loop_rule (fun u4 : (Int32 × Int32) => AW X 3 4 [.ref 1, .int u4.1, .int u4.2] [] wL wR h 0 0) (fun q => q = y) (fun u4 y4 hF hK => ?_) n ((0 : Int32), (0 : Int32)) _ hF rfl
  unfold BX4_jams_4 at hF
  refine aw_iload_2 C dX4_jams_4 ?_
  refine aw_aload_0 C dX4_jams_5 ?_
  refine aw_getI C dX4_jams_6 fX4_17 gX4_1 rfl ?_
  refine bw_icmp_ge (tgt := 34) C dX4_jams_9 (by decide) hF (fun hF => ?_) (fun hF => ?_)
  · refine aw_iload_1 C dX4_jams_34 ?_
    obtain rfl := Option.some.inj hF
    have hK : _ = y := hK
    subst hK
    exact aw_iret C E dX4_jams_35 rfl rfl (bw_ret rfl)
  · refine aw_aload_0 C dX4_jams_12 ?_
    refine aw_getR C dX4_jams_13 fX4_11 gX4_0 rfl rfl ?_
    refine aw_iload_2 C dX4_jams_16 ?_
    obtain ⟨s1, hF⟩ := bw_side hF
    refine aw_aald (t := 0) C dX4_jams_17 (by decide) rfl (aw_ix s1) (aw_wh s1).1 ?_
    obtain ⟨q2, e3, hF⟩ := bw_bind hF
    refine bw_V0i C dX4_jams_18 kyX3_jammed lX4_55 kiX3_jammed kvX3_jammed (aw_rv C (aw_w1 (aw_wh s1).2) rfl) rfl rfl (ctX3_jammed n (3 + 4 * (u4.2).toNatClampNeg) h (aw_wh s1).2 q2 e3) ?_
    refine aw_iconst C dX4_jams_21 li_m1 ?_
    refine bw_icmp_eq (tgt := 28) C dX4_jams_22 (by decide) hF (fun hF => ?_) (fun hF => ?_)
    · refine aw_iinc_2 C dX4_jams_28 li_1 rfl rfl ?_
      refine aw_goto (tgt := 4) C dX4_jams_31 (by decide) ?_
      cases hF
      exact hK
    · refine aw_iinc_1 C dX4_jams_25 li_1 rfl rfl ?_
      refine aw_iinc_2 C dX4_jams_28 li_1 rfl rfl ?_
      refine aw_goto (tgt := 4) C dX4_jams_31 (by decide) ?_
      cases hF
      exact hK
def FX5_allows (a1 : Int32) (a2 : Int32) : Option (Int32) :=
  (if (FX5_within a1 (0 : Int32) (3 : Int32)) = 0 then some (0 : Int32) else (if aw_inb a1 4 = true then (if (FX5_within a2 (0 : Int32) (aw_ro 0 (a1).toNatClampNeg)) = 0 then some (0 : Int32) else some (1 : Int32)) else none))
set_option maxRecDepth 100000 in
set_option maxHeartbeats 4000000 in
theorem ctX5_allows (a1 : Int32) (a2 : Int32) (h : aw_H) (y : Int32) (hF : FX5_allows a1 a2 = some y) : Ct 1 0 0 yX5_allows cX5_allows 2 (some .boolean) [.int a1, .int a2] wL wR h (aw_D (some (.int y)) h) := by
  refine Ct.of (ls0 := [.int a1, .int a2]) (by decide +kernel) rfl rfl (fun X C E hnm => ?_)
  have C : aw_C X RX5 cX5_allows 2 1 0 0 := C
  unfold FX5_allows at hF
  refine aw_iload_0 C dX5_allows_0 ?_
  refine aw_iconst C dX5_allows_1 li_0 ?_
  refine aw_iconst C dX5_allows_2 li_3 ?_
  refine bw_S3i C dX5_allows_3 kyX5_within lX5_91 ksX5_within rfl rfl (ctX5_within a1 (0 : Int32) (3 : Int32) h _ rfl) ?_
  refine bw_if_eq (tgt := 26) C dX5_allows_6 (by decide) hF (fun hF => ?_) (fun hF => ?_)
  · refine aw_iconst C dX5_allows_26 li_0 ?_
    obtain rfl := Option.some.inj hF
    exact aw_zret C E rfl dX5_allows_27 rfl rfl (bw_ret rfl)
  · refine aw_iload_1 C dX5_allows_9 ?_
    refine aw_iconst C dX5_allows_10 li_0 ?_
    refine aw_gets (t := 0) C dX5_allows_11 (by decide) fX5_190 ?_
    refine aw_iload_0 C dX5_allows_14 ?_
    obtain ⟨s1, hF⟩ := bw_side hF
    refine aw_tald (t := 0) C dX5_allows_15 (by decide) (aw_ix s1) ?_
    refine bw_S3i C dX5_allows_16 kyX5_within lX5_91 ksX5_within rfl rfl (ctX5_within a2 (0 : Int32) (aw_ro 0 (a1).toNatClampNeg) h _ rfl) ?_
    refine bw_if_eq (tgt := 26) C dX5_allows_19 (by decide) hF (fun hF => ?_) (fun hF => ?_)
    · refine aw_iconst C dX5_allows_26 li_0 ?_
      obtain rfl := Option.some.inj hF
      exact aw_zret C E rfl dX5_allows_27 rfl rfl (bw_ret rfl)
    · refine aw_iconst C dX5_allows_22 li_1 ?_
      refine aw_goto (tgt := 27) C dX5_allows_23 (by decide) ?_
      obtain rfl := Option.some.inj hF
      exact aw_zret C E rfl dX5_allows_27 rfl rfl (bw_ret rfl)
def FX5_part (n : Nat) (a1 : Int32) (a2 : Int32) (a3 : Int32) (a4 : Int32) (h : aw_H) : Option (Int32 × aw_H) :=
  ((FX5_allows (0 : Int32) a1).bind (fun q1 => (if q1 = 0 then some ((-2 : Int32), h) else ((FX5_allows (1 : Int32) a2).bind (fun q3 => (if q3 = 0 then some ((-2 : Int32), h) else ((FX5_allows (2 : Int32) a3).bind (fun q5 => (if q5 = 0 then some ((-2 : Int32), h) else ((FX5_allows (3 : Int32) a4).bind (fun q7 => (if q7 = 0 then some ((-2 : Int32), h) else ((FX4_addWheel n a1 a2 a3 a4 h).bind (fun q9 => some (q9.1, q9.2)))))))))))))))
set_option maxRecDepth 100000 in
set_option maxHeartbeats 4000000 in
theorem ctX5_part (n : Nat) (a1 : Int32) (a2 : Int32) (a3 : Int32) (a4 : Int32) (h : aw_H) (y : Int32 × aw_H) (hF : FX5_part n a1 a2 a3 a4 h = some y) : Ct 4 0 0 yX5_part cX5_part 5 (some .int) [.ref 0, .int a1, .int a2, .int a3, .int a4] wL wR h (aw_D (some (.int y.1)) y.2) := by
  refine Ct.of (ls0 := [.ref 0, .int a1, .int a2, .int a3, .int a4]) (by decide +kernel) rfl rfl (fun X C E hnm => ?_)
  have C : aw_C X RX5 cX5_part 5 4 0 0 := C
  unfold FX5_part at hF
  refine aw_iconst C dX5_part_0 li_0 ?_
  refine aw_iload_1 C dX5_part_1 ?_
  obtain ⟨q1, e2, hF⟩ := bw_bind hF
  refine bw_S2i C dX5_part_2 kyX5_allows lX5_57 ksX5_allows rfl rfl (ctX5_allows (0 : Int32) a1 h q1 e2) ?_
  refine bw_if_eq (tgt := 33) C dX5_part_5 (by decide) hF (fun hF => ?_) (fun hF => ?_)
  · refine aw_bipush C dX5_part_33 lb_m2 ?_
    obtain rfl := Option.some.inj hF
    exact aw_iret C E dX5_part_35 rfl rfl (bw_ret rfl)
  · refine aw_iconst C dX5_part_8 li_1 ?_
    refine aw_iload_2 C dX5_part_9 ?_
    obtain ⟨q3, e4, hF⟩ := bw_bind hF
    refine bw_S2i C dX5_part_10 kyX5_allows lX5_57 ksX5_allows rfl rfl (ctX5_allows (1 : Int32) a2 h q3 e4) ?_
    refine bw_if_eq (tgt := 33) C dX5_part_13 (by decide) hF (fun hF => ?_) (fun hF => ?_)
    · refine aw_bipush C dX5_part_33 lb_m2 ?_
      obtain rfl := Option.some.inj hF
      exact aw_iret C E dX5_part_35 rfl rfl (bw_ret rfl)
    · refine aw_iconst C dX5_part_16 li_2 ?_
      refine aw_iload_3 C dX5_part_17 ?_
      obtain ⟨q5, e6, hF⟩ := bw_bind hF
      refine bw_S2i C dX5_part_18 kyX5_allows lX5_57 ksX5_allows rfl rfl (ctX5_allows (2 : Int32) a3 h q5 e6) ?_
      refine bw_if_eq (tgt := 33) C dX5_part_21 (by decide) hF (fun hF => ?_) (fun hF => ?_)
      · refine aw_bipush C dX5_part_33 lb_m2 ?_
        obtain rfl := Option.some.inj hF
        exact aw_iret C E dX5_part_35 rfl rfl (bw_ret rfl)
      · refine aw_iconst C dX5_part_24 li_3 ?_
        refine aw_iload_4 C dX5_part_25 ?_
        obtain ⟨q7, e8, hF⟩ := bw_bind hF
        refine bw_S2i C dX5_part_27 kyX5_allows lX5_57 ksX5_allows rfl rfl (ctX5_allows (3 : Int32) a4 h q7 e8) ?_
        refine bw_if_ne (tgt := 36) C dX5_part_30 (by decide) hF (fun hF => ?_) (fun hF => ?_)
        · refine aw_aload_0 C dX5_part_36 ?_
          refine aw_getR C dX5_part_37 fX5_12 gX5_0 rfl rfl ?_
          refine aw_iload_1 C dX5_part_40 ?_
          refine aw_iload_2 C dX5_part_41 ?_
          refine aw_iload_3 C dX5_part_42 ?_
          refine aw_iload_4 C dX5_part_43 ?_
          obtain ⟨q9, e10, hF⟩ := bw_bind hF
          refine bw_V4i C dX5_part_45 kyX4_addWheel lX5_61 kiX4_addWheel kvX4_addWheel (aw_rv C rfl rfl) rfl rfl (ctX4_addWheel n a1 a2 a3 a4 h q9 e10) ?_
          obtain rfl := Option.some.inj hF
          exact aw_iret C E dX5_part_48 rfl rfl (bw_ret rfl)
        · refine aw_bipush C dX5_part_33 lb_m2 ?_
          obtain rfl := Option.some.inj hF
          exact aw_iret C E dX5_part_35 rfl rfl (bw_ret rfl)
def FX5_drop (h : aw_H) : Option (Int32 × aw_H) :=
  (if 0 < (h.1 1 1) then some (((aw_sI h 1 1 ((h.1 1 1) - (1 : Int32))).1 1 1), (aw_sI h 1 1 ((h.1 1 1) - (1 : Int32)))) else some ((-3 : Int32), h))
set_option maxRecDepth 100000 in
set_option maxHeartbeats 4000000 in
theorem ctX5_drop (h : aw_H) (y : Int32 × aw_H) (hF : FX5_drop h = some y) : Ct 0 0 0 yX5_drop cX5_drop 1 (some .int) [.ref 0] wL wR h (aw_D (some (.int y.1)) y.2) := by
  refine Ct.of (ls0 := [.ref 0]) (by decide +kernel) rfl rfl (fun X C E hnm => ?_)
  have C : aw_C X RX5 cX5_drop 1 0 0 0 := C
  unfold FX5_drop at hF
  refine aw_aload_0 C dX5_drop_0 ?_
  refine aw_getR C dX5_drop_1 fX5_12 gX5_0 rfl rfl ?_
  refine aw_getI C dX5_drop_4 fX5_65 gX4_1 rfl ?_
  refine bw_if_gt (tgt := 13) C dX5_drop_7 (by decide) hF (fun hF => ?_) (fun hF => ?_)
  · refine aw_aload_0 C dX5_drop_13 ?_
    refine aw_getR C dX5_drop_14 fX5_12 gX5_0 rfl rfl ?_
    refine aw_dup C dX5_drop_17 rfl ?_
    refine aw_getI C dX5_drop_18 fX5_65 gX4_1 rfl ?_
    refine aw_iconst C dX5_drop_21 li_1 ?_
    refine aw_isub C dX5_drop_22 ?_
    refine aw_putI C dX5_drop_23 fX5_65 gX4_1 rfl ?_
    refine aw_aload_0 C dX5_drop_26 ?_
    refine aw_getR C dX5_drop_27 fX5_12 gX5_0 rfl rfl ?_
    refine aw_getI C dX5_drop_30 fX5_65 gX4_1 rfl ?_
    obtain rfl := Option.some.inj hF
    exact aw_iret C E dX5_drop_33 rfl rfl (bw_ret rfl)
  · refine aw_bipush C dX5_drop_10 lb_m3 ?_
    obtain rfl := Option.some.inj hF
    exact aw_iret C E dX5_drop_12 rfl rfl (bw_ret rfl)
def FX5_isTeeth (a1 : Int32) : Int32 :=
  (FX5_within a1 (8 : Int32) (200 : Int32))
set_option maxRecDepth 100000 in
set_option maxHeartbeats 4000000 in
theorem ctX5_isTeeth (a1 : Int32) (h : aw_H) (y : Int32) (hF : FX5_isTeeth a1 = y) : Ct 1 0 0 yX5_isTeeth cX5_isTeeth 1 (some .boolean) [.int a1] wL wR h (aw_D (some (.int y)) h) := by
  refine Ct.of (ls0 := [.int a1]) (by decide +kernel) rfl rfl (fun X C E hnm => ?_)
  have C : aw_C X RX5 cX5_isTeeth 1 1 0 0 := C
  unfold FX5_isTeeth at hF
  refine aw_iload_0 C dX5_isTeeth_0 ?_
  refine aw_bipush C dX5_isTeeth_1 lb_8 ?_
  refine aw_sipush C dX5_isTeeth_3 ls_200 ?_
  refine bw_S3i C dX5_isTeeth_6 kyX5_within lX5_91 ksX5_within rfl rfl (ctX5_within a1 (8 : Int32) (200 : Int32) h _ rfl) ?_
  subst hF
  exact aw_zret C E (aw_nz (bX5_within a1 (8 : Int32) (200 : Int32))) dX5_isTeeth_9 rfl rfl (bw_ret rfl)
theorem bX5_isTeeth (a1 : Int32) : FX5_isTeeth a1 = 0 ∨ FX5_isTeeth a1 = 1 := by
  unfold FX5_isTeeth
  repeat' split
  all_goals first | exact Or.inl rfl | exact Or.inr rfl | exact bX5_within _ _ _
def FX5_gear (n : Nat) (a1 : Int32) (a2 : Int32) (a3 : Int32) (h : aw_H) : Option (Int32 × aw_H) :=
  ((FX4_wheelOf a1 h).bind (fun q1 => (aw_on q1 (some ((-2 : Int32), h)) (fun w3 => (if aw_isW w3 = true then (if (FX5_isTeeth a2) = 0 then some ((-2 : Int32), h) else (if (FX5_isTeeth a3) = 0 then some ((-2 : Int32), h) else ((FX3_addPair w3 a2 a3 h).bind (fun q5 => ((FX3_tune n w3 (q5.2.1 1 2) q5.2).bind (fun q7 => some (q5.1, q7))))))) else none)))))
set_option maxRecDepth 100000 in
set_option maxHeartbeats 4000000 in
theorem ctX5_gear (n : Nat) (a1 : Int32) (a2 : Int32) (a3 : Int32) (h : aw_H) (y : Int32 × aw_H) (hF : FX5_gear n a1 a2 a3 h = some y) : Ct 3 0 0 yX5_gear cX5_gear 6 (some .int) [.ref 0, .int a1, .int a2, .int a3] wL wR h (aw_D (some (.int y.1)) y.2) := by
  refine Ct.of (ls0 := [.ref 0, .int a1, .int a2, .int a3, .retAddr 0, .retAddr 0]) (by decide +kernel) rfl rfl (fun X C E hnm => ?_)
  have C : aw_C X RX5 cX5_gear 6 3 0 0 := C
  unfold FX5_gear at hF
  refine aw_aload_0 C dX5_gear_0 ?_
  refine aw_getR C dX5_gear_1 fX5_12 gX5_0 rfl rfl ?_
  refine aw_iload_1 C dX5_gear_4 ?_
  obtain ⟨q1, e2, hF⟩ := bw_bind hF
  refine bw_V1q C dX5_gear_5 kyX4_wheelOf lX5_69 kiX4_wheelOf kvX4_wheelOf (aw_rv C rfl rfl) rfl rfl (ctX4_wheelOf a1 h q1 e2) ?_
  refine bw_on hF (fun hF => ?_) (fun w3 hF => ?_)
  · refine aw_astoreN_4 C dX5_gear_8 rfl rfl ?_
    refine aw_aloadN_4 C dX5_gear_10 ?_
    refine aw_ifnullN (tgt := 29) C dX5_gear_12 (by decide) ?_
    refine aw_bipush C dX5_gear_29 lb_m2 ?_
    obtain rfl := Option.some.inj hF
    exact aw_iret C E dX5_gear_31 rfl rfl (bw_ret rfl)
  · obtain ⟨s4, hF⟩ := bw_side hF
    refine aw_astore_4 C dX5_gear_8 rfl rfl ?_
    refine aw_aload_4 C dX5_gear_10 ?_
    refine aw_ifnullR C dX5_gear_12 ?_
    refine aw_iload_2 C dX5_gear_15 ?_
    refine bw_S1i C dX5_gear_16 kyX5_isTeeth lX5_73 ksX5_isTeeth rfl rfl (ctX5_isTeeth a2 h _ rfl) ?_
    refine bw_if_eq (tgt := 29) C dX5_gear_19 (by decide) hF (fun hF => ?_) (fun hF => ?_)
    · refine aw_bipush C dX5_gear_29 lb_m2 ?_
      obtain rfl := Option.some.inj hF
      exact aw_iret C E dX5_gear_31 rfl rfl (bw_ret rfl)
    · refine aw_iload_3 C dX5_gear_22 ?_
      refine bw_S1i C dX5_gear_23 kyX5_isTeeth lX5_73 ksX5_isTeeth rfl rfl (ctX5_isTeeth a3 h _ rfl) ?_
      refine bw_if_ne (tgt := 32) C dX5_gear_26 (by decide) hF (fun hF => ?_) (fun hF => ?_)
      · refine aw_aload_4 C dX5_gear_32 ?_
        refine aw_iload_2 C dX5_gear_34 ?_
        refine aw_iload_3 C dX5_gear_35 ?_
        obtain ⟨q5, e6, hF⟩ := bw_bind hF
        refine bw_V2i C dX5_gear_36 kyX3_addPair lX5_77 kiX3_addPair kvX3_addPair (aw_rv C (aw_w1 s4) rfl) rfl rfl (ctX3_addPair w3 a2 a3 h s4 q5 e6) ?_
        refine aw_istore_5 C dX5_gear_39 rfl rfl ?_
        refine aw_aload_4 C dX5_gear_41 ?_
        refine aw_aload_0 C dX5_gear_43 ?_
        refine aw_getR C dX5_gear_44 fX5_12 gX5_0 rfl rfl ?_
        refine aw_getI C dX5_gear_47 fX5_81 gX4_2 rfl ?_
        obtain ⟨q7, e8, hF⟩ := bw_bind hF
        refine bw_V1v C dX5_gear_50 kyX3_tune lX5_84 kiX3_tune kvX3_tune (aw_rv C (aw_w1 s4) rfl) rfl rfl (ctX3_tune n w3 (q5.2.1 1 2) q5.2 s4 q7 e8) ?_
        refine aw_iload_5 C dX5_gear_53 ?_
        obtain rfl := Option.some.inj hF
        exact aw_iret C E dX5_gear_55 rfl rfl (bw_ret rfl)
      · refine aw_bipush C dX5_gear_29 lb_m2 ?_
        obtain rfl := Option.some.inj hF
        exact aw_iret C E dX5_gear_31 rfl rfl (bw_ret rfl)
def FX5_ungear (n : Nat) (a1 : Int32) (h : aw_H) : Option (Int32 × aw_H) :=
  ((FX4_wheelOf a1 h).bind (fun q1 => (aw_on q1 (some ((-2 : Int32), h)) (fun w3 => (if aw_isW w3 = true then (if 0 < (h.1 w3 3) then ((FX3_tune n w3 ((aw_sI h w3 3 ((h.1 w3 3) - (1 : Int32))).1 1 2) (aw_sI h w3 3 ((h.1 w3 3) - (1 : Int32)))).bind (fun q5 => some ((q5.1 w3 3), q5))) else some ((-3 : Int32), h)) else none)))))
set_option maxRecDepth 100000 in
set_option maxHeartbeats 4000000 in
theorem ctX5_ungear (n : Nat) (a1 : Int32) (h : aw_H) (y : Int32 × aw_H) (hF : FX5_ungear n a1 h = some y) : Ct 3 0 0 yX5_ungear cX5_ungear 3 (some .int) [.ref 0, .int a1] wL wR h (aw_D (some (.int y.1)) y.2) := by
  refine Ct.of (ls0 := [.ref 0, .int a1, .retAddr 0]) (by decide +kernel) rfl rfl (fun X C E hnm => ?_)
  have C : aw_C X RX5 cX5_ungear 3 3 0 0 := C
  unfold FX5_ungear at hF
  refine aw_aload_0 C dX5_ungear_0 ?_
  refine aw_getR C dX5_ungear_1 fX5_12 gX5_0 rfl rfl ?_
  refine aw_iload_1 C dX5_ungear_4 ?_
  obtain ⟨q1, e2, hF⟩ := bw_bind hF
  refine bw_V1q C dX5_ungear_5 kyX4_wheelOf lX5_69 kiX4_wheelOf kvX4_wheelOf (aw_rv C rfl rfl) rfl rfl (ctX4_wheelOf a1 h q1 e2) ?_
  refine bw_on hF (fun hF => ?_) (fun w3 hF => ?_)
  · refine aw_astoreN_2 C dX5_ungear_8 rfl rfl ?_
    refine aw_aloadN_2 C dX5_ungear_9 ?_
    refine aw_ifnonnullN C dX5_ungear_10 ?_
    refine aw_bipush C dX5_ungear_13 lb_m2 ?_
    obtain rfl := Option.some.inj hF
    exact aw_iret C E dX5_ungear_15 rfl rfl (bw_ret rfl)
  · obtain ⟨s4, hF⟩ := bw_side hF
    refine aw_astore_2 C dX5_ungear_8 rfl rfl ?_
    refine aw_aload_2 C dX5_ungear_9 ?_
    refine aw_ifnonnullR (tgt := 16) C dX5_ungear_10 (by decide) ?_
    refine aw_aload_2 C dX5_ungear_16 ?_
    refine aw_getI C dX5_ungear_17 fX5_88 gX3_3 (aw_w1 s4) ?_
    refine bw_if_gt (tgt := 26) C dX5_ungear_20 (by decide) hF (fun hF => ?_) (fun hF => ?_)
    · refine aw_aload_2 C dX5_ungear_26 ?_
      refine aw_dup C dX5_ungear_27 rfl ?_
      refine aw_getI C dX5_ungear_28 fX5_88 gX3_3 (aw_w1 s4) ?_
      refine aw_iconst C dX5_ungear_31 li_1 ?_
      refine aw_isub C dX5_ungear_32 ?_
      refine aw_putI C dX5_ungear_33 fX5_88 gX3_3 (aw_w1 s4) ?_
      refine aw_aload_2 C dX5_ungear_36 ?_
      refine aw_aload_0 C dX5_ungear_37 ?_
      refine aw_getR C dX5_ungear_38 fX5_12 gX5_0 rfl rfl ?_
      refine aw_getI C dX5_ungear_41 fX5_81 gX4_2 rfl ?_
      obtain ⟨q5, e6, hF⟩ := bw_bind hF
      refine bw_V1v C dX5_ungear_44 kyX3_tune lX5_84 kiX3_tune kvX3_tune (aw_rv C (aw_w1 s4) rfl) rfl rfl (ctX3_tune n w3 ((aw_sI h w3 3 ((h.1 w3 3) - (1 : Int32))).1 1 2) (aw_sI h w3 3 ((h.1 w3 3) - (1 : Int32))) s4 q5 e6) ?_
      refine aw_aload_2 C dX5_ungear_47 ?_
      refine aw_getI C dX5_ungear_48 fX5_88 gX3_3 (aw_w1 s4) ?_
      obtain rfl := Option.some.inj hF
      exact aw_iret C E dX5_ungear_51 rfl rfl (bw_ret rfl)
    · refine aw_bipush C dX5_ungear_23 lb_m3 ?_
      obtain rfl := Option.some.inj hF
      exact aw_iret C E dX5_ungear_25 rfl rfl (bw_ret rfl)
def FX5_shaft (n : Nat) (a1 : Int32) (h : aw_H) : Option (Int32 × aw_H) :=
  (if (FX5_within a1 (1 : Int32) (999 : Int32)) = 0 then some ((-2 : Int32), h) else ((FX4_goAt n a1 h).bind (fun q1 => some ((h.1 1 2), q1))))
set_option maxRecDepth 100000 in
set_option maxHeartbeats 4000000 in
theorem ctX5_shaft (n : Nat) (a1 : Int32) (h : aw_H) (y : Int32 × aw_H) (hF : FX5_shaft n a1 h = some y) : Ct 4 0 0 yX5_shaft cX5_shaft 3 (some .int) [.ref 0, .int a1] wL wR h (aw_D (some (.int y.1)) y.2) := by
  refine Ct.of (ls0 := [.ref 0, .int a1, .retAddr 0]) (by decide +kernel) rfl rfl (fun X C E hnm => ?_)
  have C : aw_C X RX5 cX5_shaft 3 4 0 0 := C
  unfold FX5_shaft at hF
  refine aw_iload_1 C dX5_shaft_0 ?_
  refine aw_iconst C dX5_shaft_1 li_1 ?_
  refine aw_sipush C dX5_shaft_2 ls_999 ?_
  refine bw_S3i C dX5_shaft_5 kyX5_within lX5_91 ksX5_within rfl rfl (ctX5_within a1 (1 : Int32) (999 : Int32) h _ rfl) ?_
  refine bw_if_ne (tgt := 14) C dX5_shaft_8 (by decide) hF (fun hF => ?_) (fun hF => ?_)
  · refine aw_aload_0 C dX5_shaft_14 ?_
    refine aw_getR C dX5_shaft_15 fX5_12 gX5_0 rfl rfl ?_
    refine aw_getI C dX5_shaft_18 fX5_81 gX4_2 rfl ?_
    refine aw_istore_2 C dX5_shaft_21 rfl rfl ?_
    refine aw_aload_0 C dX5_shaft_22 ?_
    refine aw_getR C dX5_shaft_23 fX5_12 gX5_0 rfl rfl ?_
    refine aw_iload_1 C dX5_shaft_26 ?_
    obtain ⟨q1, e2, hF⟩ := bw_bind hF
    refine bw_V1v C dX5_shaft_27 kyX4_goAt lX5_95 kiX4_goAt kvX4_goAt (aw_rv C rfl rfl) rfl rfl (ctX4_goAt n a1 h q1 e2) ?_
    refine aw_iload_2 C dX5_shaft_30 ?_
    obtain rfl := Option.some.inj hF
    exact aw_iret C E dX5_shaft_31 rfl rfl (bw_ret rfl)
  · refine aw_bipush C dX5_shaft_11 lb_m2 ?_
    obtain rfl := Option.some.inj hF
    exact aw_iret C E dX5_shaft_13 rfl rfl (bw_ret rfl)
def FX5_change (a1 : Int32) (a2 : Int32) (a3 : Int32) (h : aw_H) : Option (Int32 × aw_H) :=
  ((FX4_wheelOf a1 h).bind (fun q1 => (aw_on q1 (some ((-2 : Int32), h)) (fun w3 => (if aw_isW w3 = true then ((FX5_allows a2 a3).bind (fun q5 => (if q5 = 0 then some ((-2 : Int32), h) else (if aw_inb a2 4 = true then (if aw_inb a2 4 = true then some ((h.1 (w3 + 1) (a2).toNatClampNeg), (aw_sI h (w3 + 1) (a2).toNatClampNeg a3)) else none) else none)))) else none)))))
set_option maxRecDepth 100000 in
set_option maxHeartbeats 4000000 in
theorem ctX5_change (a1 : Int32) (a2 : Int32) (a3 : Int32) (h : aw_H) (y : Int32 × aw_H) (hF : FX5_change a1 a2 a3 h = some y) : Ct 2 0 0 yX5_change cX5_change 6 (some .int) [.ref 0, .int a1, .int a2, .int a3] wL wR h (aw_D (some (.int y.1)) y.2) := by
  refine Ct.of (ls0 := [.ref 0, .int a1, .int a2, .int a3, .retAddr 0, .retAddr 0]) (by decide +kernel) rfl rfl (fun X C E hnm => ?_)
  have C : aw_C X RX5 cX5_change 6 2 0 0 := C
  unfold FX5_change at hF
  refine aw_aload_0 C dX5_change_0 ?_
  refine aw_getR C dX5_change_1 fX5_12 gX5_0 rfl rfl ?_
  refine aw_iload_1 C dX5_change_4 ?_
  obtain ⟨q1, e2, hF⟩ := bw_bind hF
  refine bw_V1q C dX5_change_5 kyX4_wheelOf lX5_69 kiX4_wheelOf kvX4_wheelOf (aw_rv C rfl rfl) rfl rfl (ctX4_wheelOf a1 h q1 e2) ?_
  refine bw_on hF (fun hF => ?_) (fun w3 hF => ?_)
  · refine aw_astoreN_4 C dX5_change_8 rfl rfl ?_
    refine aw_aloadN_4 C dX5_change_10 ?_
    refine aw_ifnullN (tgt := 23) C dX5_change_12 (by decide) ?_
    refine aw_bipush C dX5_change_23 lb_m2 ?_
    obtain rfl := Option.some.inj hF
    exact aw_iret C E dX5_change_25 rfl rfl (bw_ret rfl)
  · obtain ⟨s4, hF⟩ := bw_side hF
    refine aw_astore_4 C dX5_change_8 rfl rfl ?_
    refine aw_aload_4 C dX5_change_10 ?_
    refine aw_ifnullR C dX5_change_12 ?_
    refine aw_iload_2 C dX5_change_15 ?_
    refine aw_iload_3 C dX5_change_16 ?_
    obtain ⟨q5, e6, hF⟩ := bw_bind hF
    refine bw_S2i C dX5_change_17 kyX5_allows lX5_57 ksX5_allows rfl rfl (ctX5_allows a2 a3 h q5 e6) ?_
    refine bw_if_ne (tgt := 26) C dX5_change_20 (by decide) hF (fun hF => ?_) (fun hF => ?_)
    · refine aw_aload_4 C dX5_change_26 ?_
      refine aw_getR C dX5_change_28 fX5_102 gX3_0 (aw_w1 s4) (aw_wr0 s4) ?_
      refine aw_iload_2 C dX5_change_31 ?_
      obtain ⟨s7, hF⟩ := bw_side hF
      refine aw_iald C dX5_change_32 (aw_wa0 s4) (aw_ix s7) ?_
      refine aw_istore_5 C dX5_change_33 rfl rfl ?_
      refine aw_aload_4 C dX5_change_35 ?_
      refine aw_getR C dX5_change_37 fX5_102 gX3_0 (aw_w1 s4) (aw_wr0 s4) ?_
      refine aw_iload_2 C dX5_change_40 ?_
      refine aw_iload_3 C dX5_change_41 ?_
      obtain ⟨s8, hF⟩ := bw_side hF
      refine aw_iast C dX5_change_42 (aw_wa0 s4) (aw_ix s8) ?_
      refine aw_iload_5 C dX5_change_43 ?_
      obtain rfl := Option.some.inj hF
      exact aw_iret C E dX5_change_45 rfl rfl (bw_ret rfl)
    · refine aw_bipush C dX5_change_23 lb_m2 ?_
      obtain rfl := Option.some.inj hF
      exact aw_iret C E dX5_change_25 rfl rfl (bw_ret rfl)
def FX5_set (a1 : Int32) (a2 : Int32) (a3 : Int32) (h : aw_H) : Option (Int32 × aw_H) :=
  (if (FX5_within a2 (0 : Int32) (2 : Int32)) = 0 then some ((-2 : Int32), h) else ((FX5_change a1 ((1 : Int32) + a2) a3 h).bind (fun q1 => some (q1.1, q1.2))))
set_option maxRecDepth 100000 in
set_option maxHeartbeats 4000000 in
theorem ctX5_set (a1 : Int32) (a2 : Int32) (a3 : Int32) (h : aw_H) (y : Int32 × aw_H) (hF : FX5_set a1 a2 a3 h = some y) : Ct 3 0 0 yX5_set cX5_set 4 (some .int) [.ref 0, .int a1, .int a2, .int a3] wL wR h (aw_D (some (.int y.1)) y.2) := by
  refine Ct.of (ls0 := [.ref 0, .int a1, .int a2, .int a3]) (by decide +kernel) rfl rfl (fun X C E hnm => ?_)
  have C : aw_C X RX5 cX5_set 4 3 0 0 := C
  unfold FX5_set at hF
  refine aw_iload_2 C dX5_set_0 ?_
  refine aw_iconst C dX5_set_1 li_0 ?_
  refine aw_iconst C dX5_set_2 li_2 ?_
  refine bw_S3i C dX5_set_3 kyX5_within lX5_91 ksX5_within rfl rfl (ctX5_within a2 (0 : Int32) (2 : Int32) h _ rfl) ?_
  refine bw_if_eq (tgt := 21) C dX5_set_6 (by decide) hF (fun hF => ?_) (fun hF => ?_)
  · refine aw_bipush C dX5_set_21 lb_m2 ?_
    obtain rfl := Option.some.inj hF
    exact aw_iret C E dX5_set_23 rfl rfl (bw_ret rfl)
  · refine aw_aload_0 C dX5_set_9 ?_
    refine aw_iload_1 C dX5_set_10 ?_
    refine aw_iconst C dX5_set_11 li_1 ?_
    refine aw_iload_2 C dX5_set_12 ?_
    refine aw_iadd C dX5_set_13 ?_
    refine aw_iload_3 C dX5_set_14 ?_
    obtain ⟨q1, e2, hF⟩ := bw_bind hF
    refine bw_V3i C dX5_set_15 kyX5_change lX5_98 kiX5_change kvX5_change (aw_rv C rfl rfl) rfl rfl (ctX5_change a1 ((1 : Int32) + a2) a3 h q1 e2) ?_
    refine aw_goto (tgt := 23) C dX5_set_18 (by decide) ?_
    obtain rfl := Option.some.inj hF
    exact aw_iret C E dX5_set_23 rfl rfl (bw_ret rfl)
def FX5_kind (a1 : Int32) (a2 : Int32) (h : aw_H) : Option (Int32 × aw_H) :=
  ((FX5_change a1 (0 : Int32) a2 h).bind (fun q1 => some (q1.1, q1.2)))
set_option maxRecDepth 100000 in
set_option maxHeartbeats 4000000 in
theorem ctX5_kind (a1 : Int32) (a2 : Int32) (h : aw_H) (y : Int32 × aw_H) (hF : FX5_kind a1 a2 h = some y) : Ct 3 0 0 yX5_kind cX5_kind 3 (some .int) [.ref 0, .int a1, .int a2] wL wR h (aw_D (some (.int y.1)) y.2) := by
  refine Ct.of (ls0 := [.ref 0, .int a1, .int a2]) (by decide +kernel) rfl rfl (fun X C E hnm => ?_)
  have C : aw_C X RX5 cX5_kind 3 3 0 0 := C
  unfold FX5_kind at hF
  refine aw_aload_0 C dX5_kind_0 ?_
  refine aw_iload_1 C dX5_kind_1 ?_
  refine aw_iconst C dX5_kind_2 li_0 ?_
  refine aw_iload_2 C dX5_kind_3 ?_
  obtain ⟨q1, e2, hF⟩ := bw_bind hF
  refine bw_V3i C dX5_kind_4 kyX5_change lX5_98 kiX5_change kvX5_change (aw_rv C rfl rfl) rfl rfl (ctX5_change a1 (0 : Int32) a2 h q1 e2) ?_
  obtain rfl := Option.some.inj hF
  exact aw_iret C E dX5_kind_7 rfl rfl (bw_ret rfl)
def FX5_of (a1 : Int32) (a2 : Int32) (h : aw_H) : Option (Int32) :=
  ((FX4_wheelOf a1 h).bind (fun q1 => (aw_on q1 (some (-2 : Int32)) (fun w3 => (if aw_isW w3 = true then (if (FX5_within a2 (0 : Int32) (3 : Int32)) = 0 then (if a2 = (4 : Int32) then some (h.1 w3 3) else (if (FX5_within a2 (10 : Int32) (12 : Int32)) = 0 then (if (FX5_within a2 (20 : Int32) (22 : Int32)) = 0 then some (-2 : Int32) else ((FX3_toothOf w3 (w3 + 3) (a2 - (20 : Int32)) h).bind (fun q5 => some q5))) else ((FX3_toothOf w3 (w3 + 2) (a2 - (10 : Int32)) h).bind (fun q7 => some q7)))) else (if aw_inb a2 4 = true then some (h.1 (w3 + 1) (a2).toNatClampNeg) else none)) else none)))))
set_option maxRecDepth 100000 in
set_option maxHeartbeats 4000000 in
theorem ctX5_of (a1 : Int32) (a2 : Int32) (h : aw_H) (y : Int32) (hF : FX5_of a1 a2 h = some y) : Ct 1 0 0 yX5_of cX5_of 4 (some .int) [.ref 0, .int a1, .int a2] wL wR h (aw_D (some (.int y)) h) := by
  refine Ct.of (ls0 := [.ref 0, .int a1, .int a2, .retAddr 0]) (by decide +kernel) rfl rfl (fun X C E hnm => ?_)
  have C : aw_C X RX5 cX5_of 4 1 0 0 := C
  unfold FX5_of at hF
  refine aw_aload_0 C dX5_of_0 ?_
  refine aw_getR C dX5_of_1 fX5_12 gX5_0 rfl rfl ?_
  refine aw_iload_1 C dX5_of_4 ?_
  obtain ⟨q1, e2, hF⟩ := bw_bind hF
  refine bw_V1q C dX5_of_5 kyX4_wheelOf lX5_69 kiX4_wheelOf kvX4_wheelOf (aw_rv C rfl rfl) rfl rfl (ctX4_wheelOf a1 h q1 e2) ?_
  refine bw_on hF (fun hF => ?_) (fun w3 hF => ?_)
  · refine aw_astoreN_3 C dX5_of_8 rfl rfl ?_
    refine aw_aloadN_3 C dX5_of_9 ?_
    refine aw_ifnonnullN C dX5_of_10 ?_
    refine aw_bipush C dX5_of_13 lb_m2 ?_
    obtain rfl := Option.some.inj hF
    exact aw_iret C E dX5_of_15 rfl rfl (bw_ret rfl)
  · obtain ⟨s4, hF⟩ := bw_side hF
    refine aw_astore_3 C dX5_of_8 rfl rfl ?_
    refine aw_aload_3 C dX5_of_9 ?_
    refine aw_ifnonnullR (tgt := 16) C dX5_of_10 (by decide) ?_
    refine aw_iload_2 C dX5_of_16 ?_
    refine aw_iconst C dX5_of_17 li_0 ?_
    refine aw_iconst C dX5_of_18 li_3 ?_
    refine bw_S3i C dX5_of_19 kyX5_within lX5_91 ksX5_within rfl rfl (ctX5_within a2 (0 : Int32) (3 : Int32) h _ rfl) ?_
    refine bw_if_eq (tgt := 32) C dX5_of_22 (by decide) hF (fun hF => ?_) (fun hF => ?_)
    · refine aw_iload_2 C dX5_of_32 ?_
      refine aw_iconst C dX5_of_33 li_4 ?_
      refine bw_icmp_ne (tgt := 42) C dX5_of_34 (by decide) hF (fun hF => ?_) (fun hF => ?_)
      · refine aw_iload_2 C dX5_of_42 ?_
        refine aw_bipush C dX5_of_43 lb_10 ?_
        refine aw_bipush C dX5_of_45 lb_12 ?_
        refine bw_S3i C dX5_of_47 kyX5_within lX5_91 ksX5_within rfl rfl (ctX5_within a2 (10 : Int32) (12 : Int32) h _ rfl) ?_
        refine bw_if_eq (tgt := 66) C dX5_of_50 (by decide) hF (fun hF => ?_) (fun hF => ?_)
        · refine aw_iload_2 C dX5_of_66 ?_
          refine aw_bipush C dX5_of_67 lb_20 ?_
          refine aw_bipush C dX5_of_69 lb_22 ?_
          refine bw_S3i C dX5_of_71 kyX5_within lX5_91 ksX5_within rfl rfl (ctX5_within a2 (20 : Int32) (22 : Int32) h _ rfl) ?_
          refine bw_if_eq (tgt := 90) C dX5_of_74 (by decide) hF (fun hF => ?_) (fun hF => ?_)
          · refine aw_bipush C dX5_of_90 lb_m2 ?_
            obtain rfl := Option.some.inj hF
            exact aw_iret C E dX5_of_92 rfl rfl (bw_ret rfl)
          · refine aw_aload_3 C dX5_of_77 ?_
            refine aw_aload_3 C dX5_of_78 ?_
            refine aw_getR C dX5_of_79 fX5_113 gX3_2 (aw_w1 s4) (aw_wr2 s4) ?_
            refine aw_iload_2 C dX5_of_82 ?_
            refine aw_bipush C dX5_of_83 lb_20 ?_
            refine aw_isub C dX5_of_85 ?_
            obtain ⟨q5, e6, hF⟩ := bw_bind hF
            refine bw_V2i C dX5_of_86 kyX3_toothOf lX5_109 kiX3_toothOf kvX3_toothOf (aw_rv C (aw_w1 s4) rfl) rfl rfl (ctX3_toothOf w3 (w3 + 3) (a2 - (20 : Int32)) h s4 (aw_isA2 s4) q5 e6) ?_
            obtain rfl := Option.some.inj hF
            exact aw_iret C E dX5_of_89 rfl rfl (bw_ret rfl)
        · refine aw_aload_3 C dX5_of_53 ?_
          refine aw_aload_3 C dX5_of_54 ?_
          refine aw_getR C dX5_of_55 fX5_106 gX3_1 (aw_w1 s4) (aw_wr1 s4) ?_
          refine aw_iload_2 C dX5_of_58 ?_
          refine aw_bipush C dX5_of_59 lb_10 ?_
          refine aw_isub C dX5_of_61 ?_
          obtain ⟨q7, e8, hF⟩ := bw_bind hF
          refine bw_V2i C dX5_of_62 kyX3_toothOf lX5_109 kiX3_toothOf kvX3_toothOf (aw_rv C (aw_w1 s4) rfl) rfl rfl (ctX3_toothOf w3 (w3 + 2) (a2 - (10 : Int32)) h s4 (aw_isA1 s4) q7 e8) ?_
          obtain rfl := Option.some.inj hF
          exact aw_iret C E dX5_of_65 rfl rfl (bw_ret rfl)
      · refine aw_aload_3 C dX5_of_37 ?_
        refine aw_getI C dX5_of_38 fX5_88 gX3_3 (aw_w1 s4) ?_
        obtain rfl := Option.some.inj hF
        exact aw_iret C E dX5_of_41 rfl rfl (bw_ret rfl)
    · refine aw_aload_3 C dX5_of_25 ?_
      refine aw_getR C dX5_of_26 fX5_102 gX3_0 (aw_w1 s4) (aw_wr0 s4) ?_
      refine aw_iload_2 C dX5_of_29 ?_
      obtain ⟨s9, hF⟩ := bw_side hF
      refine aw_iald C dX5_of_30 (aw_wa0 s4) (aw_ix s9) ?_
      obtain rfl := Option.some.inj hF
      exact aw_iret C E dX5_of_31 rfl rfl (bw_ret rfl)
def FX5_taken (a1 : Int32) (a2 : Int32) (h : aw_H) : Option (Int32) :=
  ((FX4_wheelOf a1 h).bind (fun q1 => (aw_on q1 (some (-2 : Int32)) (fun w3 => (if aw_isW w3 = true then ((FX5_allows (0 : Int32) a2).bind (fun q5 => (if q5 = 0 then some (-2 : Int32) else ((FX3_isA w3 a2 h).bind (fun q7 => (if q7 = 0 then some (-13 : Int32) else some (h.1 (w3 + 1) 3))))))) else none)))))
set_option maxRecDepth 100000 in
set_option maxHeartbeats 4000000 in
theorem ctX5_taken (a1 : Int32) (a2 : Int32) (h : aw_H) (y : Int32) (hF : FX5_taken a1 a2 h = some y) : Ct 2 0 0 yX5_taken cX5_taken 4 (some .int) [.ref 0, .int a1, .int a2] wL wR h (aw_D (some (.int y)) h) := by
  refine Ct.of (ls0 := [.ref 0, .int a1, .int a2, .retAddr 0]) (by decide +kernel) rfl rfl (fun X C E hnm => ?_)
  have C : aw_C X RX5 cX5_taken 4 2 0 0 := C
  unfold FX5_taken at hF
  refine aw_aload_0 C dX5_taken_0 ?_
  refine aw_getR C dX5_taken_1 fX5_12 gX5_0 rfl rfl ?_
  refine aw_iload_1 C dX5_taken_4 ?_
  obtain ⟨q1, e2, hF⟩ := bw_bind hF
  refine bw_V1q C dX5_taken_5 kyX4_wheelOf lX5_69 kiX4_wheelOf kvX4_wheelOf (aw_rv C rfl rfl) rfl rfl (ctX4_wheelOf a1 h q1 e2) ?_
  refine bw_on hF (fun hF => ?_) (fun w3 hF => ?_)
  · refine aw_astoreN_3 C dX5_taken_8 rfl rfl ?_
    refine aw_aloadN_3 C dX5_taken_9 ?_
    refine aw_ifnullN (tgt := 21) C dX5_taken_10 (by decide) ?_
    refine aw_bipush C dX5_taken_21 lb_m2 ?_
    obtain rfl := Option.some.inj hF
    exact aw_iret C E dX5_taken_23 rfl rfl (bw_ret rfl)
  · obtain ⟨s4, hF⟩ := bw_side hF
    refine aw_astore_3 C dX5_taken_8 rfl rfl ?_
    refine aw_aload_3 C dX5_taken_9 ?_
    refine aw_ifnullR C dX5_taken_10 ?_
    refine aw_iconst C dX5_taken_13 li_0 ?_
    refine aw_iload_2 C dX5_taken_14 ?_
    obtain ⟨q5, e6, hF⟩ := bw_bind hF
    refine bw_S2i C dX5_taken_15 kyX5_allows lX5_57 ksX5_allows rfl rfl (ctX5_allows (0 : Int32) a2 h q5 e6) ?_
    refine bw_if_ne (tgt := 24) C dX5_taken_18 (by decide) hF (fun hF => ?_) (fun hF => ?_)
    · refine aw_aload_3 C dX5_taken_24 ?_
      refine aw_iload_2 C dX5_taken_25 ?_
      obtain ⟨q7, e8, hF⟩ := bw_bind hF
      refine bw_V1i C dX5_taken_26 kyX3_isA lX5_116 kiX3_isA kvX3_isA (aw_rv C (aw_w1 s4) rfl) rfl rfl (ctX3_isA w3 a2 h s4 q7 e8) ?_
      refine bw_if_eq (tgt := 41) C dX5_taken_29 (by decide) hF (fun hF => ?_) (fun hF => ?_)
      · refine aw_bipush C dX5_taken_41 lb_m13 ?_
        obtain rfl := Option.some.inj hF
        exact aw_iret C E dX5_taken_43 rfl rfl (bw_ret rfl)
      · refine aw_aload_3 C dX5_taken_32 ?_
        refine aw_getR C dX5_taken_33 fX5_102 gX3_0 (aw_w1 s4) (aw_wr0 s4) ?_
        refine aw_iconst C dX5_taken_36 li_3 ?_
        refine aw_iald C dX5_taken_37 (aw_wa0 s4) (aw_ixk (k := 3) (n := 4) rfl rfl) ?_
        refine aw_goto (tgt := 43) C dX5_taken_38 (by decide) ?_
        obtain rfl := Option.some.inj hF
        exact aw_iret C E dX5_taken_43 rfl rfl (bw_ret rfl)
    · refine aw_bipush C dX5_taken_21 lb_m2 ?_
      obtain rfl := Option.some.inj hF
      exact aw_iret C E dX5_taken_23 rfl rfl (bw_ret rfl)
def FX5_jam (n : Nat) (a1 : Int32) (a2 : Int32) (h : aw_H) : Option (Int32) :=
  ((FX4_wheelOf a1 h).bind (fun q1 => (aw_on q1 (some (-2 : Int32)) (fun w3 => (if aw_isW w3 = true then (if (FX5_within a2 (0 : Int32) (3 : Int32)) = 0 then some (-2 : Int32) else ((FX3_jammed n w3 h).bind (fun q5 => (if a2 = 0 then some q5 else ((FX3_toothOf w3 (w3 + 2) q5 h).bind (fun q7 => ((FX3_toothOf w3 (w3 + 3) q5 h).bind (fun q9 => (if a2 = (1 : Int32) then (if q5 = (-1 : Int32) then some (0 : Int32) else some (FX5_misfit q7 q9)) else (if a2 = (2 : Int32) then (if q5 = (-1 : Int32) then some (0 : Int32) else some (2 : Int32)) else (if q5 = (-1 : Int32) then some (-1 : Int32) else some (FJ9_max_7cf53 q7 q9)))))))))))) else none)))))
set_option maxRecDepth 100000 in
set_option maxHeartbeats 4000000 in
theorem ctX5_jam (n : Nat) (a1 : Int32) (a2 : Int32) (h : aw_H) (y : Int32) (hF : FX5_jam n a1 a2 h = some y) : Ct 2 0 0 yX5_jam cX5_jam 7 (some .int) [.ref 0, .int a1, .int a2] wL wR h (aw_D (some (.int y)) h) := by
  refine Ct.of (ls0 := [.ref 0, .int a1, .int a2, .retAddr 0, .retAddr 0, .retAddr 0, .retAddr 0]) (by decide +kernel) rfl rfl (fun X C E hnm => ?_)
  have C : aw_C X RX5 cX5_jam 7 2 0 0 := C
  unfold FX5_jam at hF
  refine aw_aload_0 C dX5_jam_0 ?_
  refine aw_getR C dX5_jam_1 fX5_12 gX5_0 rfl rfl ?_
  refine aw_iload_1 C dX5_jam_4 ?_
  obtain ⟨q1, e2, hF⟩ := bw_bind hF
  refine bw_V1q C dX5_jam_5 kyX4_wheelOf lX5_69 kiX4_wheelOf kvX4_wheelOf (aw_rv C rfl rfl) rfl rfl (ctX4_wheelOf a1 h q1 e2) ?_
  refine bw_on hF (fun hF => ?_) (fun w3 hF => ?_)
  · refine aw_astoreN_3 C dX5_jam_8 rfl rfl ?_
    refine aw_aloadN_3 C dX5_jam_9 ?_
    refine aw_ifnullN (tgt := 22) C dX5_jam_10 (by decide) ?_
    refine aw_bipush C dX5_jam_22 lb_m2 ?_
    obtain rfl := Option.some.inj hF
    exact aw_iret C E dX5_jam_24 rfl rfl (bw_ret rfl)
  · obtain ⟨s4, hF⟩ := bw_side hF
    refine aw_astore_3 C dX5_jam_8 rfl rfl ?_
    refine aw_aload_3 C dX5_jam_9 ?_
    refine aw_ifnullR C dX5_jam_10 ?_
    refine aw_iload_2 C dX5_jam_13 ?_
    refine aw_iconst C dX5_jam_14 li_0 ?_
    refine aw_iconst C dX5_jam_15 li_3 ?_
    refine bw_S3i C dX5_jam_16 kyX5_within lX5_91 ksX5_within rfl rfl (ctX5_within a2 (0 : Int32) (3 : Int32) h _ rfl) ?_
    refine bw_if_ne (tgt := 25) C dX5_jam_19 (by decide) hF (fun hF => ?_) (fun hF => ?_)
    · refine aw_aload_3 C dX5_jam_25 ?_
      obtain ⟨q5, e6, hF⟩ := bw_bind hF
      refine bw_V0i C dX5_jam_26 kyX3_jammed lX5_119 kiX3_jammed kvX3_jammed (aw_rv C (aw_w1 s4) rfl) rfl rfl (ctX3_jammed n w3 h s4 q5 e6) ?_
      refine aw_istore_4 C dX5_jam_29 rfl rfl ?_
      refine aw_iload_2 C dX5_jam_31 ?_
      refine bw_if_ne (tgt := 38) C dX5_jam_32 (by decide) hF (fun hF => ?_) (fun hF => ?_)
      · refine aw_aload_3 C dX5_jam_38 ?_
        refine aw_aload_3 C dX5_jam_39 ?_
        refine aw_getR C dX5_jam_40 fX5_106 gX3_1 (aw_w1 s4) (aw_wr1 s4) ?_
        refine aw_iload_4 C dX5_jam_43 ?_
        obtain ⟨q7, e8, hF⟩ := bw_bind hF
        refine bw_V2i C dX5_jam_45 kyX3_toothOf lX5_109 kiX3_toothOf kvX3_toothOf (aw_rv C (aw_w1 s4) rfl) rfl rfl (ctX3_toothOf w3 (w3 + 2) q5 h s4 (aw_isA1 s4) q7 e8) ?_
        refine aw_istore_5 C dX5_jam_48 rfl rfl ?_
        refine aw_aload_3 C dX5_jam_50 ?_
        refine aw_aload_3 C dX5_jam_51 ?_
        refine aw_getR C dX5_jam_52 fX5_113 gX3_2 (aw_w1 s4) (aw_wr2 s4) ?_
        refine aw_iload_4 C dX5_jam_55 ?_
        obtain ⟨q9, e10, hF⟩ := bw_bind hF
        refine bw_V2i C dX5_jam_57 kyX3_toothOf lX5_109 kiX3_toothOf kvX3_toothOf (aw_rv C (aw_w1 s4) rfl) rfl rfl (ctX3_toothOf w3 (w3 + 3) q5 h s4 (aw_isA2 s4) q9 e10) ?_
        refine aw_istore_6 C dX5_jam_60 rfl rfl ?_
        refine aw_iload_2 C dX5_jam_62 ?_
        refine aw_iconst C dX5_jam_63 li_1 ?_
        refine bw_icmp_ne (tgt := 85) C dX5_jam_64 (by decide) hF (fun hF => ?_) (fun hF => ?_)
        · refine aw_iload_2 C dX5_jam_85 ?_
          refine aw_iconst C dX5_jam_86 li_2 ?_
          refine bw_icmp_ne (tgt := 102) C dX5_jam_87 (by decide) hF (fun hF => ?_) (fun hF => ?_)
          · refine aw_iload_4 C dX5_jam_102 ?_
            refine aw_iconst C dX5_jam_104 li_m1 ?_
            refine bw_icmp_ne (tgt := 112) C dX5_jam_105 (by decide) hF (fun hF => ?_) (fun hF => ?_)
            · refine aw_iload_5 C dX5_jam_112 ?_
              refine aw_iload_6 C dX5_jam_114 ?_
              refine bw_max C dX5_jam_116 lX5_126 rfl rfl ?_
              obtain rfl := Option.some.inj hF
              exact aw_iret C E dX5_jam_119 rfl rfl (bw_ret rfl)
            · refine aw_iconst C dX5_jam_108 li_m1 ?_
              refine aw_goto (tgt := 119) C dX5_jam_109 (by decide) ?_
              obtain rfl := Option.some.inj hF
              exact aw_iret C E dX5_jam_119 rfl rfl (bw_ret rfl)
          · refine aw_iload_4 C dX5_jam_90 ?_
            refine aw_iconst C dX5_jam_92 li_m1 ?_
            refine bw_icmp_ne (tgt := 100) C dX5_jam_93 (by decide) hF (fun hF => ?_) (fun hF => ?_)
            · refine aw_iconst C dX5_jam_100 li_2 ?_
              obtain rfl := Option.some.inj hF
              exact aw_iret C E dX5_jam_101 rfl rfl (bw_ret rfl)
            · refine aw_iconst C dX5_jam_96 li_0 ?_
              refine aw_goto (tgt := 101) C dX5_jam_97 (by decide) ?_
              obtain rfl := Option.some.inj hF
              exact aw_iret C E dX5_jam_101 rfl rfl (bw_ret rfl)
        · refine aw_iload_4 C dX5_jam_67 ?_
          refine aw_iconst C dX5_jam_69 li_m1 ?_
          refine bw_icmp_ne (tgt := 77) C dX5_jam_70 (by decide) hF (fun hF => ?_) (fun hF => ?_)
          · refine aw_iload_5 C dX5_jam_77 ?_
            refine aw_iload_6 C dX5_jam_79 ?_
            refine bw_S2i C dX5_jam_81 kyX5_misfit lX5_123 ksX5_misfit rfl rfl (ctX5_misfit q7 q9 h _ rfl) ?_
            obtain rfl := Option.some.inj hF
            exact aw_iret C E dX5_jam_84 rfl rfl (bw_ret rfl)
          · refine aw_iconst C dX5_jam_73 li_0 ?_
            refine aw_goto (tgt := 84) C dX5_jam_74 (by decide) ?_
            obtain rfl := Option.some.inj hF
            exact aw_iret C E dX5_jam_84 rfl rfl (bw_ret rfl)
      · refine aw_iload_4 C dX5_jam_35 ?_
        obtain rfl := Option.some.inj hF
        exact aw_iret C E dX5_jam_37 rfl rfl (bw_ret rfl)
    · refine aw_bipush C dX5_jam_22 lb_m2 ?_
      obtain rfl := Option.some.inj hF
      exact aw_iret C E dX5_jam_24 rfl rfl (bw_ret rfl)
def FX5_speed (a1 : Int32) (a2 : Int32) (h : aw_H) : Option (Int64) :=
  ((FX4_wheelOf a1 h).bind (fun q1 => (aw_on q1 (some (-9223372036854775808 : Int64)) (fun w3 => (if aw_isW w3 = true then (if (FX5_within a2 (0 : Int32) (1 : Int32)) = 0 then some (-9223372036854775808 : Int64) else (if a2 = 0 then some (h.2 w3 4) else some (h.2 w3 5))) else none)))))
set_option maxRecDepth 100000 in
set_option maxHeartbeats 4000000 in
theorem ctX5_speed (a1 : Int32) (a2 : Int32) (h : aw_H) (y : Int64) (hF : FX5_speed a1 a2 h = some y) : Ct 1 0 0 yX5_speed cX5_speed 4 (some .long) [.ref 0, .int a1, .int a2] wL wR h (aw_D (some (.long y)) h) := by
  refine Ct.of (ls0 := [.ref 0, .int a1, .int a2, .retAddr 0]) (by decide +kernel) rfl rfl (fun X C E hnm => ?_)
  have C : aw_C X RX5 cX5_speed 4 1 0 0 := C
  unfold FX5_speed at hF
  refine aw_aload_0 C dX5_speed_0 ?_
  refine aw_getR C dX5_speed_1 fX5_12 gX5_0 rfl rfl ?_
  refine aw_iload_1 C dX5_speed_4 ?_
  obtain ⟨q1, e2, hF⟩ := bw_bind hF
  refine bw_V1q C dX5_speed_5 kyX4_wheelOf lX5_69 kiX4_wheelOf kvX4_wheelOf (aw_rv C rfl rfl) rfl rfl (ctX4_wheelOf a1 h q1 e2) ?_
  refine bw_on hF (fun hF => ?_) (fun w3 hF => ?_)
  · refine aw_astoreN_3 C dX5_speed_8 rfl rfl ?_
    refine aw_aloadN_3 C dX5_speed_9 ?_
    refine aw_ifnullN (tgt := 22) C dX5_speed_10 (by decide) ?_
    refine aw_ldc2 C dX5_speed_22 nX5_131 ?_
    obtain rfl := Option.some.inj hF
    exact aw_lret C E dX5_speed_25 rfl rfl (bw_ret rfl)
  · obtain ⟨s4, hF⟩ := bw_side hF
    refine aw_astore_3 C dX5_speed_8 rfl rfl ?_
    refine aw_aload_3 C dX5_speed_9 ?_
    refine aw_ifnullR C dX5_speed_10 ?_
    refine aw_iload_2 C dX5_speed_13 ?_
    refine aw_iconst C dX5_speed_14 li_0 ?_
    refine aw_iconst C dX5_speed_15 li_1 ?_
    refine bw_S3i C dX5_speed_16 kyX5_within lX5_91 ksX5_within rfl rfl (ctX5_within a2 (0 : Int32) (1 : Int32) h _ rfl) ?_
    refine bw_if_ne (tgt := 26) C dX5_speed_19 (by decide) hF (fun hF => ?_) (fun hF => ?_)
    · refine aw_iload_2 C dX5_speed_26 ?_
      refine bw_if_ne (tgt := 37) C dX5_speed_27 (by decide) hF (fun hF => ?_) (fun hF => ?_)
      · refine aw_aload_3 C dX5_speed_37 ?_
        refine aw_getL C dX5_speed_38 fX5_137 gX3_5 (aw_w1 s4) ?_
        obtain rfl := Option.some.inj hF
        exact aw_lret C E dX5_speed_41 rfl rfl (bw_ret rfl)
      · refine aw_aload_3 C dX5_speed_30 ?_
        refine aw_getL C dX5_speed_31 fX5_133 gX3_4 (aw_w1 s4) ?_
        refine aw_goto (tgt := 41) C dX5_speed_34 (by decide) ?_
        obtain rfl := Option.some.inj hF
        exact aw_lret C E dX5_speed_41 rfl rfl (bw_ret rfl)
    · refine aw_ldc2 C dX5_speed_22 nX5_131 ?_
      obtain rfl := Option.some.inj hF
      exact aw_lret C E dX5_speed_25 rfl rfl (bw_ret rfl)
def FX5_turn (a1 : Int32) (h : aw_H) : Option (Int32 × aw_H) :=
  (if (FX5_within a1 (1 : Int32) (99999 : Int32)) = 0 then some ((-2 : Int32), h) else (if ((h.1 1 3) + a1) ≤ (99999 : Int32) then some (((aw_sI h 1 3 ((h.1 1 3) + a1)).1 1 3), (aw_sI h 1 3 ((h.1 1 3) + a1))) else some ((-4 : Int32), h)))
set_option maxRecDepth 100000 in
set_option maxHeartbeats 4000000 in
theorem ctX5_turn (a1 : Int32) (h : aw_H) (y : Int32 × aw_H) (hF : FX5_turn a1 h = some y) : Ct 1 0 0 yX5_turn cX5_turn 2 (some .int) [.ref 0, .int a1] wL wR h (aw_D (some (.int y.1)) y.2) := by
  refine Ct.of (ls0 := [.ref 0, .int a1]) (by decide +kernel) rfl rfl (fun X C E hnm => ?_)
  have C : aw_C X RX5 cX5_turn 2 1 0 0 := C
  unfold FX5_turn at hF
  refine aw_iload_1 C dX5_turn_0 ?_
  refine aw_iconst C dX5_turn_1 li_1 ?_
  refine aw_ldc C dX5_turn_2 nX5_140 ?_
  refine bw_S3i C dX5_turn_4 kyX5_within lX5_91 ksX5_within rfl rfl (ctX5_within a1 (1 : Int32) (99999 : Int32) h _ rfl) ?_
  refine bw_if_ne (tgt := 13) C dX5_turn_7 (by decide) hF (fun hF => ?_) (fun hF => ?_)
  · refine aw_aload_0 C dX5_turn_13 ?_
    refine aw_getR C dX5_turn_14 fX5_12 gX5_0 rfl rfl ?_
    refine aw_getI C dX5_turn_17 fX5_141 gX4_3 rfl ?_
    refine aw_iload_1 C dX5_turn_20 ?_
    refine aw_iadd C dX5_turn_21 ?_
    refine aw_ldc C dX5_turn_22 nX5_140 ?_
    refine bw_icmp_le (tgt := 30) C dX5_turn_24 (by decide) hF (fun hF => ?_) (fun hF => ?_)
    · refine aw_aload_0 C dX5_turn_30 ?_
      refine aw_getR C dX5_turn_31 fX5_12 gX5_0 rfl rfl ?_
      refine aw_dup C dX5_turn_34 rfl ?_
      refine aw_getI C dX5_turn_35 fX5_141 gX4_3 rfl ?_
      refine aw_iload_1 C dX5_turn_38 ?_
      refine aw_iadd C dX5_turn_39 ?_
      refine aw_putI C dX5_turn_40 fX5_141 gX4_3 rfl ?_
      refine aw_aload_0 C dX5_turn_43 ?_
      refine aw_getR C dX5_turn_44 fX5_12 gX5_0 rfl rfl ?_
      refine aw_getI C dX5_turn_47 fX5_141 gX4_3 rfl ?_
      obtain rfl := Option.some.inj hF
      exact aw_iret C E dX5_turn_50 rfl rfl (bw_ret rfl)
    · refine aw_bipush C dX5_turn_27 lb_m4 ?_
      obtain rfl := Option.some.inj hF
      exact aw_iret C E dX5_turn_29 rfl rfl (bw_ret rfl)
  · refine aw_bipush C dX5_turn_10 lb_m2 ?_
    obtain rfl := Option.some.inj hF
    exact aw_iret C E dX5_turn_12 rfl rfl (bw_ret rfl)
def FX5_height (n : Nat) (h : aw_H) : Option (Int64) :=
  ((FX4_level n (h.1 1 3) h).bind (fun q1 => some q1))
set_option maxRecDepth 100000 in
set_option maxHeartbeats 4000000 in
theorem ctX5_height (n : Nat) (h : aw_H) (y : Int64) (hF : FX5_height n h = some y) : Ct 5 0 0 yX5_height cX5_height 1 (some .long) [.ref 0] wL wR h (aw_D (some (.long y)) h) := by
  refine Ct.of (ls0 := [.ref 0]) (by decide +kernel) rfl rfl (fun X C E hnm => ?_)
  have C : aw_C X RX5 cX5_height 1 5 0 0 := C
  unfold FX5_height at hF
  refine aw_aload_0 C dX5_height_0 ?_
  refine aw_getR C dX5_height_1 fX5_12 gX5_0 rfl rfl ?_
  refine aw_aload_0 C dX5_height_4 ?_
  refine aw_getR C dX5_height_5 fX5_12 gX5_0 rfl rfl ?_
  refine aw_getI C dX5_height_8 fX5_141 gX4_3 rfl ?_
  obtain ⟨q1, e2, hF⟩ := bw_bind hF
  refine bw_V1l C dX5_height_11 kyX4_level lX5_144 kiX4_level kvX4_level (aw_rv C rfl rfl) rfl rfl (ctX4_level n (h.1 1 3) h q1 e2) ?_
  obtain rfl := Option.some.inj hF
  exact aw_lret C E dX5_height_14 rfl rfl (bw_ret rfl)
def FX5_isTick (a1 : Int32) : Int32 :=
  (FX5_within a1 (0 : Int32) (99999 : Int32))
set_option maxRecDepth 100000 in
set_option maxHeartbeats 4000000 in
theorem ctX5_isTick (a1 : Int32) (h : aw_H) (y : Int32) (hF : FX5_isTick a1 = y) : Ct 1 0 0 yX5_isTick cX5_isTick 1 (some .boolean) [.int a1] wL wR h (aw_D (some (.int y)) h) := by
  refine Ct.of (ls0 := [.int a1]) (by decide +kernel) rfl rfl (fun X C E hnm => ?_)
  have C : aw_C X RX5 cX5_isTick 1 1 0 0 := C
  unfold FX5_isTick at hF
  refine aw_iload_0 C dX5_isTick_0 ?_
  refine aw_iconst C dX5_isTick_1 li_0 ?_
  refine aw_ldc C dX5_isTick_2 nX5_140 ?_
  refine bw_S3i C dX5_isTick_4 kyX5_within lX5_91 ksX5_within rfl rfl (ctX5_within a1 (0 : Int32) (99999 : Int32) h _ rfl) ?_
  subst hF
  exact aw_zret C E (aw_nz (bX5_within a1 (0 : Int32) (99999 : Int32))) dX5_isTick_7 rfl rfl (bw_ret rfl)
theorem bX5_isTick (a1 : Int32) : FX5_isTick a1 = 0 ∨ FX5_isTick a1 = 1 := by
  unfold FX5_isTick
  repeat' split
  all_goals first | exact Or.inl rfl | exact Or.inr rfl | exact bX5_within _ _ _
def FX5_heightAt (n : Nat) (a1 : Int32) (h : aw_H) : Option (Int64) :=
  (if (FX5_isTick a1) = 0 then some (-9223372036854775808 : Int64) else ((FX4_level n a1 h).bind (fun q1 => some q1)))
set_option maxRecDepth 100000 in
set_option maxHeartbeats 4000000 in
theorem ctX5_heightAt (n : Nat) (a1 : Int32) (h : aw_H) (y : Int64) (hF : FX5_heightAt n a1 h = some y) : Ct 5 0 0 yX5_heightAt cX5_heightAt 2 (some .long) [.ref 0, .int a1] wL wR h (aw_D (some (.long y)) h) := by
  refine Ct.of (ls0 := [.ref 0, .int a1]) (by decide +kernel) rfl rfl (fun X C E hnm => ?_)
  have C : aw_C X RX5 cX5_heightAt 2 5 0 0 := C
  unfold FX5_heightAt at hF
  refine aw_iload_1 C dX5_heightAt_0 ?_
  refine bw_S1i C dX5_heightAt_1 kyX5_isTick lX5_148 ksX5_isTick rfl rfl (ctX5_isTick a1 h _ rfl) ?_
  refine bw_if_eq (tgt := 18) C dX5_heightAt_4 (by decide) hF (fun hF => ?_) (fun hF => ?_)
  · refine aw_ldc2 C dX5_heightAt_18 nX5_131 ?_
    obtain rfl := Option.some.inj hF
    exact aw_lret C E dX5_heightAt_21 rfl rfl (bw_ret rfl)
  · refine aw_aload_0 C dX5_heightAt_7 ?_
    refine aw_getR C dX5_heightAt_8 fX5_12 gX5_0 rfl rfl ?_
    refine aw_iload_1 C dX5_heightAt_11 ?_
    obtain ⟨q1, e2, hF⟩ := bw_bind hF
    refine bw_V1l C dX5_heightAt_12 kyX4_level lX5_144 kiX4_level kvX4_level (aw_rv C rfl rfl) rfl rfl (ctX4_level n a1 h q1 e2) ?_
    refine aw_goto (tgt := 21) C dX5_heightAt_15 (by decide) ?_
    obtain rfl := Option.some.inj hF
    exact aw_lret C E dX5_heightAt_21 rfl rfl (bw_ret rfl)

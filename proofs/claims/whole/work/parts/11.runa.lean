def FJ13_compare_74951 (a1 : Int64) (a2 : Int64) : Int32 :=
  (if 0 ≤ (lg_cmp a1 a2) then (if (lg_cmp a1 a2) = 0 then (0 : Int32) else (1 : Int32)) else (-1 : Int32))
set_option maxRecDepth 100000 in
set_option maxHeartbeats 4000000 in
theorem ctJ13_compare_74951 (a1 : Int64) (a2 : Int64) (h : aw_H) (y : Int32) (hF : FJ13_compare_74951 a1 a2 = y) : Ct 0 0 0 yJ13_compare_74951 cJ13_compare_74951 4 (some .int) [.long a1, .long a2] wL wR h (aw_D (some (.int y)) h) := by
  refine Ct.of (ls0 := [.long a1, .retAddr 0, .long a2, .retAddr 0]) (by decide +kernel) rfl rfl (fun X C E hnm => ?_)
  have C : aw_C X RJ13 cJ13_compare_74951 4 0 0 0 := C
  unfold FJ13_compare_74951 at hF
  refine aw_lload_0 C dJ13_compare_74951_0 ?_
  refine aw_lload_2 C dJ13_compare_74951_1 ?_
  refine aw_lcmp C dJ13_compare_74951_2 ?_
  refine bw_if_ge (tgt := 10) C dJ13_compare_74951_3 (by decide) hF (fun hF => ?_) (fun hF => ?_)
  · refine aw_lload_0 C dJ13_compare_74951_10 ?_
    refine aw_lload_2 C dJ13_compare_74951_11 ?_
    refine aw_lcmp C dJ13_compare_74951_12 ?_
    refine bw_if_ne (tgt := 20) C dJ13_compare_74951_13 (by decide) hF (fun hF => ?_) (fun hF => ?_)
    · refine aw_iconst C dJ13_compare_74951_20 li_1 ?_
      subst hF
      exact aw_iret C E dJ13_compare_74951_21 rfl rfl (bw_ret rfl)
    · refine aw_iconst C dJ13_compare_74951_16 li_0 ?_
      refine aw_goto (tgt := 21) C dJ13_compare_74951_17 (by decide) ?_
      subst hF
      exact aw_iret C E dJ13_compare_74951_21 rfl rfl (bw_ret rfl)
  · refine aw_iconst C dJ13_compare_74951_6 li_m1 ?_
    refine aw_goto (tgt := 21) C dJ13_compare_74951_7 (by decide) ?_
    subst hF
    exact aw_iret C E dJ13_compare_74951_21 rfl rfl (bw_ret rfl)
def FX0_start (a1 : Int64) (h : aw_H) : Option (aw_H) :=
  some (aw_sI (aw_sL h 62 0 a1) 62 1 (0 : Int32))
set_option maxRecDepth 100000 in
set_option maxHeartbeats 4000000 in
theorem ctX0_start (a1 : Int64) (h : aw_H) (y : aw_H) (hF : FX0_start a1 h = some y) : Ct 0 0 0 yX0_start cX0_start 3 none [.ref 62, .long a1] wL wR h (aw_D (none) y) := by
  refine Ct.of (ls0 := [.ref 62, .long a1, .retAddr 0]) (by decide +kernel) rfl rfl (fun X C E hnm => ?_)
  have C : aw_C X RX0 cX0_start 3 0 0 0 := C
  unfold FX0_start at hF
  refine aw_aload_0 C dX0_start_0 ?_
  refine aw_lload_1 C dX0_start_1 ?_
  refine aw_putL C dX0_start_2 fX0_7 gX0_0 rfl ?_
  refine aw_aload_0 C dX0_start_5 ?_
  refine aw_iconst C dX0_start_6 li_0 ?_
  refine aw_putI C dX0_start_7 fX0_13 gX0_1 rfl ?_
  obtain rfl := Option.some.inj hF
  exact aw_vret C E dX0_start_10 rfl rfl (bw_ret rfl)
def FX0_step (a1 : Int64) (h : aw_H) : Option (Int32 × aw_H) :=
  (if (lg_cmp a1 (h.2 62 0)) ≤ 0 then (if 0 ≤ (lg_cmp a1 (h.2 62 0)) then (if (0 : Int32) = 0 then some ((0 : Int32), (aw_sL h 62 0 a1)) else (if ((aw_sL h 62 0 a1).1 62 1) = (0 : Int32) then some ((0 : Int32), (aw_sI (aw_sL h 62 0 a1) 62 1 (0 : Int32))) else some (((aw_sL h 62 0 a1).1 62 1), (aw_sI (aw_sL h 62 0 a1) 62 1 (0 : Int32))))) else (if (-1 : Int32) = 0 then some ((0 : Int32), (aw_sL h 62 0 a1)) else (if ((aw_sL h 62 0 a1).1 62 1) = (-1 : Int32) then some ((0 : Int32), (aw_sI (aw_sL h 62 0 a1) 62 1 (-1 : Int32))) else some (((aw_sL h 62 0 a1).1 62 1), (aw_sI (aw_sL h 62 0 a1) 62 1 (-1 : Int32)))))) else (if (1 : Int32) = 0 then some ((0 : Int32), (aw_sL h 62 0 a1)) else (if ((aw_sL h 62 0 a1).1 62 1) = (1 : Int32) then some ((0 : Int32), (aw_sI (aw_sL h 62 0 a1) 62 1 (1 : Int32))) else some (((aw_sL h 62 0 a1).1 62 1), (aw_sI (aw_sL h 62 0 a1) 62 1 (1 : Int32))))))
set_option maxRecDepth 100000 in
set_option maxHeartbeats 4000000 in
theorem ctX0_step (a1 : Int64) (h : aw_H) (y : Int32 × aw_H) (hF : FX0_step a1 h = some y) : Ct 0 0 0 yX0_step cX0_step 5 (some .int) [.ref 62, .long a1] wL wR h (aw_D (some (.int y.1)) y.2) := by
  refine Ct.of (ls0 := [.ref 62, .long a1, .retAddr 0, .retAddr 0, .retAddr 0]) (by decide +kernel) rfl rfl (fun X C E hnm => ?_)
  have C : aw_C X RX0 cX0_step 5 0 0 0 := C
  unfold FX0_step at hF
  refine aw_lload_1 C dX0_step_0 ?_
  refine aw_aload_0 C dX0_step_1 ?_
  refine aw_getL C dX0_step_2 fX0_7 gX0_0 rfl ?_
  refine aw_lcmp C dX0_step_5 ?_
  refine bw_if_le (tgt := 13) C dX0_step_6 (by decide) hF (fun hF => ?_) (fun hF => ?_)
  · refine aw_lload_1 C dX0_step_13 ?_
    refine aw_aload_0 C dX0_step_14 ?_
    refine aw_getL C dX0_step_15 fX0_7 gX0_0 rfl ?_
    refine aw_lcmp C dX0_step_18 ?_
    refine bw_if_ge (tgt := 26) C dX0_step_19 (by decide) hF (fun hF => ?_) (fun hF => ?_)
    · refine aw_iconst C dX0_step_26 li_0 ?_
      refine aw_istore_3 C dX0_step_27 rfl rfl ?_
      refine aw_aload_0 C dX0_step_28 ?_
      refine aw_lload_1 C dX0_step_29 ?_
      refine aw_putL C dX0_step_30 fX0_7 gX0_0 rfl ?_
      refine aw_iload_3 C dX0_step_33 ?_
      refine bw_if_ne (tgt := 39) C dX0_step_34 (by decide) hF (fun hF => ?_) (fun hF => ?_)
      · refine aw_aload_0 C dX0_step_39 ?_
        refine aw_getI C dX0_step_40 fX0_13 gX0_1 rfl ?_
        refine aw_istore_4 C dX0_step_43 rfl rfl ?_
        refine aw_aload_0 C dX0_step_45 ?_
        refine aw_iload_3 C dX0_step_46 ?_
        refine aw_putI C dX0_step_47 fX0_13 gX0_1 rfl ?_
        refine aw_iload_4 C dX0_step_50 ?_
        refine aw_iload_3 C dX0_step_52 ?_
        refine bw_icmp_ne (tgt := 60) C dX0_step_53 (by decide) hF (fun hF => ?_) (fun hF => ?_)
        · refine aw_iload_4 C dX0_step_60 ?_
          obtain rfl := Option.some.inj hF
          exact aw_iret C E dX0_step_62 rfl rfl (bw_ret rfl)
        · refine aw_iconst C dX0_step_56 li_0 ?_
          refine aw_goto (tgt := 62) C dX0_step_57 (by decide) ?_
          obtain rfl := Option.some.inj hF
          exact aw_iret C E dX0_step_62 rfl rfl (bw_ret rfl)
      · refine aw_iconst C dX0_step_37 li_0 ?_
        obtain rfl := Option.some.inj hF
        exact aw_iret C E dX0_step_38 rfl rfl (bw_ret rfl)
    · refine aw_iconst C dX0_step_22 li_m1 ?_
      refine aw_goto (tgt := 27) C dX0_step_23 (by decide) ?_
      refine aw_istore_3 C dX0_step_27 rfl rfl ?_
      refine aw_aload_0 C dX0_step_28 ?_
      refine aw_lload_1 C dX0_step_29 ?_
      refine aw_putL C dX0_step_30 fX0_7 gX0_0 rfl ?_
      refine aw_iload_3 C dX0_step_33 ?_
      refine bw_if_ne (tgt := 39) C dX0_step_34 (by decide) hF (fun hF => ?_) (fun hF => ?_)
      · refine aw_aload_0 C dX0_step_39 ?_
        refine aw_getI C dX0_step_40 fX0_13 gX0_1 rfl ?_
        refine aw_istore_4 C dX0_step_43 rfl rfl ?_
        refine aw_aload_0 C dX0_step_45 ?_
        refine aw_iload_3 C dX0_step_46 ?_
        refine aw_putI C dX0_step_47 fX0_13 gX0_1 rfl ?_
        refine aw_iload_4 C dX0_step_50 ?_
        refine aw_iload_3 C dX0_step_52 ?_
        refine bw_icmp_ne (tgt := 60) C dX0_step_53 (by decide) hF (fun hF => ?_) (fun hF => ?_)
        · refine aw_iload_4 C dX0_step_60 ?_
          obtain rfl := Option.some.inj hF
          exact aw_iret C E dX0_step_62 rfl rfl (bw_ret rfl)
        · refine aw_iconst C dX0_step_56 li_0 ?_
          refine aw_goto (tgt := 62) C dX0_step_57 (by decide) ?_
          obtain rfl := Option.some.inj hF
          exact aw_iret C E dX0_step_62 rfl rfl (bw_ret rfl)
      · refine aw_iconst C dX0_step_37 li_0 ?_
        obtain rfl := Option.some.inj hF
        exact aw_iret C E dX0_step_38 rfl rfl (bw_ret rfl)
  · refine aw_iconst C dX0_step_9 li_1 ?_
    refine aw_goto (tgt := 27) C dX0_step_10 (by decide) ?_
    refine aw_istore_3 C dX0_step_27 rfl rfl ?_
    refine aw_aload_0 C dX0_step_28 ?_
    refine aw_lload_1 C dX0_step_29 ?_
    refine aw_putL C dX0_step_30 fX0_7 gX0_0 rfl ?_
    refine aw_iload_3 C dX0_step_33 ?_
    refine bw_if_ne (tgt := 39) C dX0_step_34 (by decide) hF (fun hF => ?_) (fun hF => ?_)
    · refine aw_aload_0 C dX0_step_39 ?_
      refine aw_getI C dX0_step_40 fX0_13 gX0_1 rfl ?_
      refine aw_istore_4 C dX0_step_43 rfl rfl ?_
      refine aw_aload_0 C dX0_step_45 ?_
      refine aw_iload_3 C dX0_step_46 ?_
      refine aw_putI C dX0_step_47 fX0_13 gX0_1 rfl ?_
      refine aw_iload_4 C dX0_step_50 ?_
      refine aw_iload_3 C dX0_step_52 ?_
      refine bw_icmp_ne (tgt := 60) C dX0_step_53 (by decide) hF (fun hF => ?_) (fun hF => ?_)
      · refine aw_iload_4 C dX0_step_60 ?_
        obtain rfl := Option.some.inj hF
        exact aw_iret C E dX0_step_62 rfl rfl (bw_ret rfl)
      · refine aw_iconst C dX0_step_56 li_0 ?_
        refine aw_goto (tgt := 62) C dX0_step_57 (by decide) ?_
        obtain rfl := Option.some.inj hF
        exact aw_iret C E dX0_step_62 rfl rfl (bw_ret rfl)
    · refine aw_iconst C dX0_step_37 li_0 ?_
      obtain rfl := Option.some.inj hF
      exact aw_iret C E dX0_step_38 rfl rfl (bw_ret rfl)
def FX1_isMissing (a0 : Nat) (h : aw_H) : Int32 :=
  (if (h.1 a0 1) = (-1 : Int32) then (1 : Int32) else (0 : Int32))
set_option maxRecDepth 100000 in
set_option maxHeartbeats 4000000 in
theorem ctX1_isMissing (a0 : Nat) (h : aw_H) (f0 : aw_isS a0 = true) (y : Int32) (hF : FX1_isMissing a0 h = y) : Ct 0 0 0 yX1_isMissing cX1_isMissing 1 (some .boolean) [.ref a0] wL wR h (aw_D (some (.int y)) h) := by
  refine Ct.of (ls0 := [.ref a0]) (by decide +kernel) rfl rfl (fun X C E hnm => ?_)
  have C : aw_C X RX1 cX1_isMissing 1 0 0 0 := C
  unfold FX1_isMissing at hF
  refine aw_aload_0 C dX1_isMissing_0 ?_
  refine aw_getI C dX1_isMissing_1 fX1_15 gX1_1 (aw_s1 f0) ?_
  refine aw_iconst C dX1_isMissing_4 li_m1 ?_
  refine bw_icmp_ne (tgt := 12) C dX1_isMissing_5 (by decide) hF (fun hF => ?_) (fun hF => ?_)
  · refine aw_iconst C dX1_isMissing_12 li_0 ?_
    subst hF
    exact aw_zret C E rfl dX1_isMissing_13 rfl rfl (bw_ret rfl)
  · refine aw_iconst C dX1_isMissing_8 li_1 ?_
    refine aw_goto (tgt := 13) C dX1_isMissing_9 (by decide) ?_
    subst hF
    exact aw_zret C E rfl dX1_isMissing_13 rfl rfl (bw_ret rfl)
theorem bX1_isMissing (a0 : Nat) (h : aw_H) : FX1_isMissing a0 h = 0 ∨ FX1_isMissing a0 h = 1 := by
  unfold FX1_isMissing
  repeat' split
  all_goals first | exact Or.inl rfl | exact Or.inr rfl
def FX1_canTell (a0 : Nat) (h : aw_H) : Int32 :=
  (if (FX1_isMissing a0 h) = 0 then (if (8 : Int32) < (h.1 a0 2) then (0 : Int32) else (1 : Int32)) else (0 : Int32))
set_option maxRecDepth 100000 in
set_option maxHeartbeats 4000000 in
theorem ctX1_canTell (a0 : Nat) (h : aw_H) (f0 : aw_isS a0 = true) (y : Int32) (hF : FX1_canTell a0 h = y) : Ct 1 0 0 yX1_canTell cX1_canTell 1 (some .boolean) [.ref a0] wL wR h (aw_D (some (.int y)) h) := by
  refine Ct.of (ls0 := [.ref a0]) (by decide +kernel) rfl rfl (fun X C E hnm => ?_)
  have C : aw_C X RX1 cX1_canTell 1 1 0 0 := C
  unfold FX1_canTell at hF
  refine aw_aload_0 C dX1_canTell_0 ?_
  refine bw_V0i C dX1_canTell_1 kyX1_isMissing lX1_22 kiX1_isMissing kvX1_isMissing (aw_rv C (aw_s1 f0) rfl) rfl rfl (ctX1_isMissing a0 h f0 _ rfl) ?_
  refine bw_if_ne (tgt := 20) C dX1_canTell_4 (by decide) hF (fun hF => ?_) (fun hF => ?_)
  · refine aw_iconst C dX1_canTell_20 li_0 ?_
    subst hF
    exact aw_zret C E rfl dX1_canTell_21 rfl rfl (bw_ret rfl)
  · refine aw_aload_0 C dX1_canTell_7 ?_
    refine aw_getI C dX1_canTell_8 fX1_19 gX1_2 (aw_s1 f0) ?_
    refine aw_bipush C dX1_canTell_11 lb_8 ?_
    refine bw_icmp_gt (tgt := 20) C dX1_canTell_13 (by decide) hF (fun hF => ?_) (fun hF => ?_)
    · refine aw_iconst C dX1_canTell_20 li_0 ?_
      subst hF
      exact aw_zret C E rfl dX1_canTell_21 rfl rfl (bw_ret rfl)
    · refine aw_iconst C dX1_canTell_16 li_1 ?_
      refine aw_goto (tgt := 21) C dX1_canTell_17 (by decide) ?_
      subst hF
      exact aw_zret C E rfl dX1_canTell_21 rfl rfl (bw_ret rfl)
theorem bX1_canTell (a0 : Nat) (h : aw_H) : FX1_canTell a0 h = 0 ∨ FX1_canTell a0 h = 1 := by
  unfold FX1_canTell
  repeat' split
  all_goals first | exact Or.inl rfl | exact Or.inr rfl | exact bX1_isMissing _ _
def BX1_begin_12 (a0 : Nat) (u12 : (Int32 × aw_H)) : Option ((Int32 × aw_H) ⊕ aw_H) :=
  (if (40 : Int32) ≤ u12.1 then some (Sum.inr u12.2) else (if aw_inb u12.1 40 = true then some (Sum.inl ((u12.1 + (1 : Int32)), (aw_sL u12.2 (a0 + 1) (u12.1).toNatClampNeg (0 : Int64)))) else none))
def FX1_begin (n : Nat) (a0 : Nat) (a1 : Int32) (a2 : Int32) (h : aw_H) : Option (aw_H) :=
  aw_loop (BX1_begin_12 a0) n ((0 : Int32), (aw_sI (aw_sI h a0 1 a1) a0 2 a2))
set_option maxRecDepth 100000 in
set_option maxHeartbeats 4000000 in
theorem ctX1_begin (n : Nat) (a0 : Nat) (a1 : Int32) (a2 : Int32) (h : aw_H) (f0 : aw_isS a0 = true) (y : aw_H) (hF : FX1_begin n a0 a1 a2 h = some y) : Ct 0 0 0 yX1_begin cX1_begin 4 none [.ref a0, .int a1, .int a2] wL wR h (aw_D (none) y) := by
  refine Ct.of (ls0 := [.ref a0, .int a1, .int a2, .retAddr 0]) (by decide +kernel) rfl rfl (fun X C E hnm => ?_)
  have C : aw_C X RX1 cX1_begin 4 0 0 0 := C
  unfold FX1_begin at hF
  refine aw_aload_0 C dX1_begin_0 ?_
  refine aw_iload_1 C dX1_begin_1 ?_
  refine aw_putI C dX1_begin_2 fX1_15 gX1_1 (aw_s1 f0) ?_
  refine aw_aload_0 C dX1_begin_5 ?_
  refine aw_iload_2 C dX1_begin_6 ?_
  refine aw_putI C dX1_begin_7 fX1_19 gX1_2 (aw_s1 f0) ?_
  refine aw_iconst C dX1_begin_10 li_0 ?_
  refine aw_istore_3 C dX1_begin_11 rfl rfl ?_
  refine aw_weak (show aw_le [.ref a0, .retAddr 0, .retAddr 0, .int (0 : Int32)] [.ref a0, .int a1, .int a2, .int (0 : Int32)] from ⟨Or.inr rfl, Or.inl rfl, Or.inl rfl, Or.inr rfl, trivial⟩) ?_
  refine aw_loop_rule (fun u12 : (Int32 × aw_H) => AW X 4 12 [.ref a0, .retAddr 0, .retAddr 0, .int u12.1] [] wL wR u12.2 0 0) (fun q => q = y) (fun u12 y12 hF hK => ?_) n ((0 : Int32), (aw_sI (aw_sI h a0 1 a1) a0 2 a2)) _ hF rfl
  unfold BX1_begin_12 at hF
  refine aw_iload_3 C dX1_begin_12 ?_
  refine aw_aload_0 C dX1_begin_13 ?_
  refine aw_getR C dX1_begin_14 fX1_9 gX1_0 (aw_s1 f0) (aw_sr0 f0) ?_
  refine aw_alen (t := 1) (v := 40) C dX1_begin_17 (by decide) (aw_sa0 f0) (by decide) ?_
  refine bw_icmp_ge (tgt := 34) C dX1_begin_18 (by decide) hF (fun hF => ?_) (fun hF => ?_)
  · obtain rfl := Option.some.inj hF
    have hK : _ = y := hK
    subst hK
    exact aw_vret C E dX1_begin_34 rfl rfl (bw_ret rfl)
  · refine aw_aload_0 C dX1_begin_21 ?_
    refine aw_getR C dX1_begin_22 fX1_9 gX1_0 (aw_s1 f0) (aw_sr0 f0) ?_
    refine aw_iload_3 C dX1_begin_25 ?_
    refine aw_lconst C dX1_begin_26 ll_0 ?_
    obtain ⟨s1, hF⟩ := bw_side hF
    refine aw_last C dX1_begin_27 (aw_sa0 f0) (aw_ix s1) ?_
    refine aw_iinc_3 C dX1_begin_28 li_1 rfl rfl ?_
    refine aw_goto (tgt := 12) C dX1_begin_31 (by decide) ?_
    cases hF
    exact hK
def FX1_holds (a0 : Nat) (a1 : Int64) (a2 : Int32) (h : aw_H) : Int32 :=
  (if (lg_cmp a1 (0 : Int64)) < 0 then (0 : Int32) else (if a2 < 0 then (0 : Int32) else (if 0 < (lg_cmp (a1 + (a2).toInt64) (((h.1 a0 2)).toInt64)) then (0 : Int32) else (1 : Int32))))
set_option maxRecDepth 100000 in
set_option maxHeartbeats 4000000 in
theorem ctX1_holds (a0 : Nat) (a1 : Int64) (a2 : Int32) (h : aw_H) (f0 : aw_isS a0 = true) (y : Int32) (hF : FX1_holds a0 a1 a2 h = y) : Ct 0 0 0 yX1_holds cX1_holds 4 (some .boolean) [.ref a0, .long a1, .int a2] wL wR h (aw_D (some (.int y)) h) := by
  refine Ct.of (ls0 := [.ref a0, .long a1, .retAddr 0, .int a2]) (by decide +kernel) rfl rfl (fun X C E hnm => ?_)
  have C : aw_C X RX1 cX1_holds 4 0 0 0 := C
  unfold FX1_holds at hF
  refine aw_lload_1 C dX1_holds_0 ?_
  refine aw_lconst C dX1_holds_1 ll_0 ?_
  refine aw_lcmp C dX1_holds_2 ?_
  refine bw_if_lt (tgt := 27) C dX1_holds_3 (by decide) hF (fun hF => ?_) (fun hF => ?_)
  · refine aw_iconst C dX1_holds_27 li_0 ?_
    subst hF
    exact aw_zret C E rfl dX1_holds_28 rfl rfl (bw_ret rfl)
  · refine aw_iload_3 C dX1_holds_6 ?_
    refine bw_if_lt (tgt := 27) C dX1_holds_7 (by decide) hF (fun hF => ?_) (fun hF => ?_)
    · refine aw_iconst C dX1_holds_27 li_0 ?_
      subst hF
      exact aw_zret C E rfl dX1_holds_28 rfl rfl (bw_ret rfl)
    · refine aw_lload_1 C dX1_holds_10 ?_
      refine aw_iload_3 C dX1_holds_11 ?_
      refine aw_i2l C dX1_holds_12 ?_
      refine aw_ladd C dX1_holds_13 ?_
      refine aw_aload_0 C dX1_holds_14 ?_
      refine aw_getI C dX1_holds_15 fX1_19 gX1_2 (aw_s1 f0) ?_
      refine aw_i2l C dX1_holds_18 ?_
      refine aw_lcmp C dX1_holds_19 ?_
      refine bw_if_gt (tgt := 27) C dX1_holds_20 (by decide) hF (fun hF => ?_) (fun hF => ?_)
      · refine aw_iconst C dX1_holds_27 li_0 ?_
        subst hF
        exact aw_zret C E rfl dX1_holds_28 rfl rfl (bw_ret rfl)
      · refine aw_iconst C dX1_holds_23 li_1 ?_
        refine aw_goto (tgt := 28) C dX1_holds_24 (by decide) ?_
        subst hF
        exact aw_zret C E rfl dX1_holds_28 rfl rfl (bw_ret rfl)
theorem bX1_holds (a0 : Nat) (a1 : Int64) (a2 : Int32) (h : aw_H) : FX1_holds a0 a1 a2 h = 0 ∨ FX1_holds a0 a1 a2 h = 1 := by
  unfold FX1_holds
  repeat' split
  all_goals first | exact Or.inl rfl | exact Or.inr rfl
def FX1_write (a0 : Nat) (a1 : Int32) (a2 : Int64) (h : aw_H) : Option (aw_H) :=
  (if (FX1_holds a0 ((a1).toInt64) (1 : Int32) h) = 0 then some h else (if (h.1 a0 1) = (1 : Int32) then (if aw_inb a1 40 = true then some (aw_sL h (a0 + 1) (a1).toNatClampNeg (((a2).toInt32).toInt64)) else none) else (if aw_inb a1 40 = true then some (aw_sL h (a0 + 1) (a1).toNatClampNeg a2) else none)))
set_option maxRecDepth 100000 in
set_option maxHeartbeats 4000000 in
theorem ctX1_write (a0 : Nat) (a1 : Int32) (a2 : Int64) (h : aw_H) (f0 : aw_isS a0 = true) (y : aw_H) (hF : FX1_write a0 a1 a2 h = some y) : Ct 1 0 0 yX1_write cX1_write 4 none [.ref a0, .int a1, .long a2] wL wR h (aw_D (none) y) := by
  refine Ct.of (ls0 := [.ref a0, .int a1, .long a2, .retAddr 0]) (by decide +kernel) rfl rfl (fun X C E hnm => ?_)
  have C : aw_C X RX1 cX1_write 4 1 0 0 := C
  unfold FX1_write at hF
  refine aw_aload_0 C dX1_write_0 ?_
  refine aw_iload_1 C dX1_write_1 ?_
  refine aw_i2l C dX1_write_2 ?_
  refine aw_iconst C dX1_write_3 li_1 ?_
  refine bw_V2i C dX1_write_4 kyX1_holds lX1_26 kiX1_holds kvX1_holds (aw_rv C (aw_s1 f0) rfl) rfl rfl (ctX1_holds a0 ((a1).toInt64) (1 : Int32) h f0 _ rfl) ?_
  refine bw_if_eq (tgt := 31) C dX1_write_7 (by decide) hF (fun hF => ?_) (fun hF => ?_)
  · obtain rfl := Option.some.inj hF
    exact aw_vret C E dX1_write_31 rfl rfl (bw_ret rfl)
  · refine aw_aload_0 C dX1_write_10 ?_
    refine aw_getR C dX1_write_11 fX1_9 gX1_0 (aw_s1 f0) (aw_sr0 f0) ?_
    refine aw_iload_1 C dX1_write_14 ?_
    refine aw_aload_0 C dX1_write_15 ?_
    refine aw_getI C dX1_write_16 fX1_15 gX1_1 (aw_s1 f0) ?_
    refine aw_iconst C dX1_write_19 li_1 ?_
    refine bw_icmp_ne (tgt := 29) C dX1_write_20 (by decide) hF (fun hF => ?_) (fun hF => ?_)
    · refine aw_lload_2 C dX1_write_29 ?_
      obtain ⟨s1, hF⟩ := bw_side hF
      refine aw_last C dX1_write_30 (aw_sa0 f0) (aw_ix s1) ?_
      obtain rfl := Option.some.inj hF
      exact aw_vret C E dX1_write_31 rfl rfl (bw_ret rfl)
    · refine aw_lload_2 C dX1_write_23 ?_
      refine aw_l2i C dX1_write_24 ?_
      refine aw_i2l C dX1_write_25 ?_
      refine aw_goto (tgt := 30) C dX1_write_26 (by decide) ?_
      obtain ⟨s2, hF⟩ := bw_side hF
      refine aw_last C dX1_write_30 (aw_sa0 f0) (aw_ix s2) ?_
      obtain rfl := Option.some.inj hF
      exact aw_vret C E dX1_write_31 rfl rfl (bw_ret rfl)
def FX2_addByte (a1 : Int32) (h : aw_H) : Option (aw_H) :=
  (if (60 : Int32) ≤ (h.1 54 1) then some h else (if aw_inb (h.1 54 1) 60 = true then some (aw_sI (aw_sI h 55 ((h.1 54 1)).toNatClampNeg a1) 54 1 (((aw_sI h 55 ((h.1 54 1)).toNatClampNeg a1).1 54 1) + (1 : Int32))) else none))
set_option maxRecDepth 100000 in
set_option maxHeartbeats 4000000 in
theorem ctX2_addByte (a1 : Int32) (h : aw_H) (y : aw_H) (hF : FX2_addByte a1 h = some y) : Ct 0 0 0 yX2_addByte cX2_addByte 2 none [.ref 54, .int a1] wL wR h (aw_D (none) y) := by
  refine Ct.of (ls0 := [.ref 54, .int a1]) (by decide +kernel) rfl rfl (fun X C E hnm => ?_)
  have C : aw_C X RX2 cX2_addByte 2 0 0 0 := C
  unfold FX2_addByte at hF
  refine aw_aload_0 C dX2_addByte_0 ?_
  refine aw_getI C dX2_addByte_1 fX2_15 gX2_1 rfl ?_
  refine aw_aload_0 C dX2_addByte_4 ?_
  refine aw_getR C dX2_addByte_5 fX2_9 gX2_0 rfl rfl ?_
  refine aw_alen (t := 0) (v := 60) C dX2_addByte_8 (by decide) rfl (by decide) ?_
  refine bw_icmp_ge (tgt := 32) C dX2_addByte_9 (by decide) hF (fun hF => ?_) (fun hF => ?_)
  · obtain rfl := Option.some.inj hF
    exact aw_vret C E dX2_addByte_32 rfl rfl (bw_ret rfl)
  · refine aw_aload_0 C dX2_addByte_12 ?_
    refine aw_getR C dX2_addByte_13 fX2_9 gX2_0 rfl rfl ?_
    refine aw_aload_0 C dX2_addByte_16 ?_
    refine aw_getI C dX2_addByte_17 fX2_15 gX2_1 rfl ?_
    refine aw_iload_1 C dX2_addByte_20 ?_
    obtain ⟨s1, hF⟩ := bw_side hF
    refine aw_iast C dX2_addByte_21 rfl (aw_ix s1) ?_
    refine aw_aload_0 C dX2_addByte_22 ?_
    refine aw_dup C dX2_addByte_23 rfl ?_
    refine aw_getI C dX2_addByte_24 fX2_15 gX2_1 rfl ?_
    refine aw_iconst C dX2_addByte_27 li_1 ?_
    refine aw_iadd C dX2_addByte_28 ?_
    refine aw_putI C dX2_addByte_29 fX2_15 gX2_1 rfl ?_
    obtain rfl := Option.some.inj hF
    exact aw_vret C E dX2_addByte_32 rfl rfl (bw_ret rfl)
def FX2_byteAt (a1 : Int32) (h : aw_H) : Option (Int32) :=
  (if a1 < 0 then some (-1 : Int32) else (if (h.1 54 1) ≤ a1 then some (-1 : Int32) else (if aw_inb a1 60 = true then some (h.1 55 (a1).toNatClampNeg) else none)))
set_option maxRecDepth 100000 in
set_option maxHeartbeats 4000000 in
theorem ctX2_byteAt (a1 : Int32) (h : aw_H) (y : Int32) (hF : FX2_byteAt a1 h = some y) : Ct 0 0 0 yX2_byteAt cX2_byteAt 2 (some .int) [.ref 54, .int a1] wL wR h (aw_D (some (.int y)) h) := by
  refine Ct.of (ls0 := [.ref 54, .int a1]) (by decide +kernel) rfl rfl (fun X C E hnm => ?_)
  have C : aw_C X RX2 cX2_byteAt 2 0 0 0 := C
  unfold FX2_byteAt at hF
  refine aw_iload_1 C dX2_byteAt_0 ?_
  refine bw_if_lt (tgt := 21) C dX2_byteAt_1 (by decide) hF (fun hF => ?_) (fun hF => ?_)
  · refine aw_iconst C dX2_byteAt_21 li_m1 ?_
    obtain rfl := Option.some.inj hF
    exact aw_iret C E dX2_byteAt_22 rfl rfl (bw_ret rfl)
  · refine aw_iload_1 C dX2_byteAt_4 ?_
    refine aw_aload_0 C dX2_byteAt_5 ?_
    refine aw_getI C dX2_byteAt_6 fX2_15 gX2_1 rfl ?_
    refine bw_icmp_ge (tgt := 21) C dX2_byteAt_9 (by decide) hF (fun hF => ?_) (fun hF => ?_)
    · refine aw_iconst C dX2_byteAt_21 li_m1 ?_
      obtain rfl := Option.some.inj hF
      exact aw_iret C E dX2_byteAt_22 rfl rfl (bw_ret rfl)
    · refine aw_aload_0 C dX2_byteAt_12 ?_
      refine aw_getR C dX2_byteAt_13 fX2_9 gX2_0 rfl rfl ?_
      refine aw_iload_1 C dX2_byteAt_16 ?_
      obtain ⟨s1, hF⟩ := bw_side hF
      refine aw_iald C dX2_byteAt_17 rfl (aw_ix s1) ?_
      refine aw_goto (tgt := 22) C dX2_byteAt_18 (by decide) ?_
      obtain rfl := Option.some.inj hF
      exact aw_iret C E dX2_byteAt_22 rfl rfl (bw_ret rfl)
def FX5_within (a1 : Int32) (a2 : Int32) (a3 : Int32) : Int32 :=
  (if a1 < a2 then (0 : Int32) else (if a3 < a1 then (0 : Int32) else (1 : Int32)))
set_option maxRecDepth 100000 in
set_option maxHeartbeats 4000000 in
theorem ctX5_within (a1 : Int32) (a2 : Int32) (a3 : Int32) (h : aw_H) (y : Int32) (hF : FX5_within a1 a2 a3 = y) : Ct 0 0 0 yX5_within cX5_within 3 (some .boolean) [.int a1, .int a2, .int a3] wL wR h (aw_D (some (.int y)) h) := by
  refine Ct.of (ls0 := [.int a1, .int a2, .int a3]) (by decide +kernel) rfl rfl (fun X C E hnm => ?_)
  have C : aw_C X RX5 cX5_within 3 0 0 0 := C
  unfold FX5_within at hF
  refine aw_iload_0 C dX5_within_0 ?_
  refine aw_iload_1 C dX5_within_1 ?_
  refine bw_icmp_lt (tgt := 14) C dX5_within_2 (by decide) hF (fun hF => ?_) (fun hF => ?_)
  · refine aw_iconst C dX5_within_14 li_0 ?_
    subst hF
    exact aw_zret C E rfl dX5_within_15 rfl rfl (bw_ret rfl)
  · refine aw_iload_0 C dX5_within_5 ?_
    refine aw_iload_2 C dX5_within_6 ?_
    refine bw_icmp_gt (tgt := 14) C dX5_within_7 (by decide) hF (fun hF => ?_) (fun hF => ?_)
    · refine aw_iconst C dX5_within_14 li_0 ?_
      subst hF
      exact aw_zret C E rfl dX5_within_15 rfl rfl (bw_ret rfl)
    · refine aw_iconst C dX5_within_10 li_1 ?_
      refine aw_goto (tgt := 15) C dX5_within_11 (by decide) ?_
      subst hF
      exact aw_zret C E rfl dX5_within_15 rfl rfl (bw_ret rfl)
theorem bX5_within (a1 : Int32) (a2 : Int32) (a3 : Int32) : FX5_within a1 a2 a3 = 0 ∨ FX5_within a1 a2 a3 = 1 := by
  unfold FX5_within
  repeat' split
  all_goals first | exact Or.inl rfl | exact Or.inr rfl
def FX2_sortAt (a1 : Int32) (h : aw_H) : Option (Int32) :=
  ((FX2_byteAt a1 h).bind (fun q1 => (if q1 = (-1 : Int32) then some (0 : Int32) else (if q1 = (32 : Int32) then some (1 : Int32) else (if q1 = (10 : Int32) then some (1 : Int32) else (if q1 = (59 : Int32) then some (4 : Int32) else (if (FX5_within q1 (48 : Int32) (57 : Int32)) = 0 then (if (FX5_within q1 (97 : Int32) (122 : Int32)) = 0 then some (5 : Int32) else some (2 : Int32)) else some (3 : Int32))))))))
set_option maxRecDepth 100000 in
set_option maxHeartbeats 4000000 in
theorem ctX2_sortAt (a1 : Int32) (h : aw_H) (y : Int32) (hF : FX2_sortAt a1 h = some y) : Ct 1 0 0 yX2_sortAt cX2_sortAt 3 (some .int) [.ref 54, .int a1] wL wR h (aw_D (some (.int y)) h) := by
  refine Ct.of (ls0 := [.ref 54, .int a1, .retAddr 0]) (by decide +kernel) rfl rfl (fun X C E hnm => ?_)
  have C : aw_C X RX2 cX2_sortAt 3 1 0 0 := C
  unfold FX2_sortAt at hF
  refine aw_aload_0 C dX2_sortAt_0 ?_
  refine aw_iload_1 C dX2_sortAt_1 ?_
  obtain ⟨q1, e2, hF⟩ := bw_bind hF
  refine bw_V1i C dX2_sortAt_2 kyX2_byteAt lX2_37 kiX2_byteAt kvX2_byteAt (aw_rv C rfl rfl) rfl rfl (ctX2_byteAt a1 h q1 e2) ?_
  refine aw_istore_2 C dX2_sortAt_5 rfl rfl ?_
  refine aw_iload_2 C dX2_sortAt_6 ?_
  refine aw_iconst C dX2_sortAt_7 li_m1 ?_
  refine bw_icmp_ne (tgt := 13) C dX2_sortAt_8 (by decide) hF (fun hF => ?_) (fun hF => ?_)
  · refine aw_iload_2 C dX2_sortAt_13 ?_
    refine aw_bipush C dX2_sortAt_14 lb_32 ?_
    refine bw_icmp_eq (tgt := 25) C dX2_sortAt_16 (by decide) hF (fun hF => ?_) (fun hF => ?_)
    · refine aw_iconst C dX2_sortAt_25 li_1 ?_
      obtain rfl := Option.some.inj hF
      exact aw_iret C E dX2_sortAt_26 rfl rfl (bw_ret rfl)
    · refine aw_iload_2 C dX2_sortAt_19 ?_
      refine aw_bipush C dX2_sortAt_20 lb_10 ?_
      refine bw_icmp_ne (tgt := 27) C dX2_sortAt_22 (by decide) hF (fun hF => ?_) (fun hF => ?_)
      · refine aw_iload_2 C dX2_sortAt_27 ?_
        refine aw_bipush C dX2_sortAt_28 lb_59 ?_
        refine bw_icmp_ne (tgt := 35) C dX2_sortAt_30 (by decide) hF (fun hF => ?_) (fun hF => ?_)
        · refine aw_iload_2 C dX2_sortAt_35 ?_
          refine aw_bipush C dX2_sortAt_36 lb_48 ?_
          refine aw_bipush C dX2_sortAt_38 lb_57 ?_
          refine bw_N3i C dX2_sortAt_40 kyX5_within lX2_41 ksX5_within rfl rfl (ctX5_within q1 (48 : Int32) (57 : Int32) h _ rfl) ?_
          refine bw_if_eq (tgt := 48) C dX2_sortAt_43 (by decide) hF (fun hF => ?_) (fun hF => ?_)
          · refine aw_iload_2 C dX2_sortAt_48 ?_
            refine aw_bipush C dX2_sortAt_49 lb_97 ?_
            refine aw_bipush C dX2_sortAt_51 lb_122 ?_
            refine bw_N3i C dX2_sortAt_53 kyX5_within lX2_41 ksX5_within rfl rfl (ctX5_within q1 (97 : Int32) (122 : Int32) h _ rfl) ?_
            refine bw_if_eq (tgt := 63) C dX2_sortAt_56 (by decide) hF (fun hF => ?_) (fun hF => ?_)
            · refine aw_iconst C dX2_sortAt_63 li_5 ?_
              obtain rfl := Option.some.inj hF
              exact aw_iret C E dX2_sortAt_64 rfl rfl (bw_ret rfl)
            · refine aw_iconst C dX2_sortAt_59 li_2 ?_
              refine aw_goto (tgt := 64) C dX2_sortAt_60 (by decide) ?_
              obtain rfl := Option.some.inj hF
              exact aw_iret C E dX2_sortAt_64 rfl rfl (bw_ret rfl)
          · refine aw_iconst C dX2_sortAt_46 li_3 ?_
            obtain rfl := Option.some.inj hF
            exact aw_iret C E dX2_sortAt_47 rfl rfl (bw_ret rfl)
        · refine aw_iconst C dX2_sortAt_33 li_4 ?_
          obtain rfl := Option.some.inj hF
          exact aw_iret C E dX2_sortAt_34 rfl rfl (bw_ret rfl)
      · refine aw_iconst C dX2_sortAt_25 li_1 ?_
        obtain rfl := Option.some.inj hF
        exact aw_iret C E dX2_sortAt_26 rfl rfl (bw_ret rfl)
  · refine aw_iconst C dX2_sortAt_11 li_0 ?_
    obtain rfl := Option.some.inj hF
    exact aw_iret C E dX2_sortAt_12 rfl rfl (bw_ret rfl)
def BX2_behind_2 (a2 : Int32) (h : aw_H) (u2 : Int32) : Option (Int32 ⊕ Int32) :=
  (if (h.1 54 1) ≤ u2 then some (Sum.inr u2) else ((FX2_sortAt u2 h).bind (fun q1 => (if q1 = a2 then some (Sum.inl (u2 + (1 : Int32))) else some (Sum.inr u2)))))
def FX2_behind (n : Nat) (a1 : Int32) (a2 : Int32) (h : aw_H) : Option (Int32) :=
  aw_loop (BX2_behind_2 a2 h) n a1
set_option maxRecDepth 100000 in
set_option maxHeartbeats 4000000 in
theorem ctX2_behind (n : Nat) (a1 : Int32) (a2 : Int32) (h : aw_H) (y : Int32) (hF : FX2_behind n a1 a2 h = some y) : Ct 2 0 0 yX2_behind cX2_behind 4 (some .int) [.ref 54, .int a1, .int a2] wL wR h (aw_D (some (.int y)) h) := by
  refine Ct.of (ls0 := [.ref 54, .int a1, .int a2, .retAddr 0]) (by decide +kernel) rfl rfl (fun X C E hnm => ?_)
  have C : aw_C X RX2 cX2_behind 4 2 0 0 := C
  unfold FX2_behind at hF
  refine aw_iload_1 C dX2_behind_0 ?_
  refine aw_istore_3 C dX2_behind_1 rfl rfl ?_
  refine aw_weak (show aw_le [.ref 54, .retAddr 0, .int a2, .int a1] [.ref 54, .int a1, .int a2, .int a1] from ⟨Or.inr rfl, Or.inl rfl, Or.inr rfl, Or.inr rfl, trivial⟩) ?_
  refine aw_loop_rule (fun u2 : Int32 => AW X 4 2 [.ref 54, .retAddr 0, .int a2, .int u2] [] wL wR h 0 0) (fun q => q = y) (fun u2 y2 hF hK => ?_) n a1 _ hF rfl
  unfold BX2_behind_2 at hF
  refine aw_iload_3 C dX2_behind_2 ?_
  refine aw_aload_0 C dX2_behind_3 ?_
  refine aw_getI C dX2_behind_4 fX2_15 gX2_1 rfl ?_
  refine bw_icmp_ge (tgt := 25) C dX2_behind_7 (by decide) hF (fun hF => ?_) (fun hF => ?_)
  · refine aw_iload_3 C dX2_behind_25 ?_
    obtain rfl := Option.some.inj hF
    have hK : _ = y := hK
    subst hK
    exact aw_iret C E dX2_behind_26 rfl rfl (bw_ret rfl)
  · refine aw_aload_0 C dX2_behind_10 ?_
    refine aw_iload_3 C dX2_behind_11 ?_
    obtain ⟨q1, e2, hF⟩ := bw_bind hF
    refine bw_V1i C dX2_behind_12 kyX2_sortAt lX2_45 kiX2_sortAt kvX2_sortAt (aw_rv C rfl rfl) rfl rfl (ctX2_sortAt u2 h q1 e2) ?_
    refine aw_iload_2 C dX2_behind_15 ?_
    refine bw_icmp_ne (tgt := 25) C dX2_behind_16 (by decide) hF (fun hF => ?_) (fun hF => ?_)
    · refine aw_iload_3 C dX2_behind_25 ?_
      obtain rfl := Option.some.inj hF
      have hK : _ = y := hK
      subst hK
      exact aw_iret C E dX2_behind_26 rfl rfl (bw_ret rfl)
    · refine aw_iinc_3 C dX2_behind_19 li_1 rfl rfl ?_
      refine aw_goto (tgt := 2) C dX2_behind_22 (by decide) ?_
      cases hF
      exact hK
def FX2_next (n : Nat) (h : aw_H) : Option (Int32 × aw_H) :=
  ((FX2_behind n (h.1 54 4) (1 : Int32) h).bind (fun q1 => ((FX2_sortAt ((aw_sI h 54 3 q1).1 54 3) (aw_sI h 54 3 q1)).bind (fun q3 => (if ((aw_sI (aw_sI h 54 3 q1) 54 2 q3).1 54 2) = (4 : Int32) then some (((aw_sI (aw_sI (aw_sI h 54 3 q1) 54 2 q3) 54 4 (((aw_sI (aw_sI h 54 3 q1) 54 2 q3).1 54 3) + (1 : Int32))).1 54 2), (aw_sI (aw_sI (aw_sI h 54 3 q1) 54 2 q3) 54 4 (((aw_sI (aw_sI h 54 3 q1) 54 2 q3).1 54 3) + (1 : Int32)))) else ((FX2_behind n ((aw_sI (aw_sI h 54 3 q1) 54 2 q3).1 54 3) ((aw_sI (aw_sI h 54 3 q1) 54 2 q3).1 54 2) (aw_sI (aw_sI h 54 3 q1) 54 2 q3)).bind (fun q5 => some (((aw_sI (aw_sI (aw_sI h 54 3 q1) 54 2 q3) 54 4 q5).1 54 2), (aw_sI (aw_sI (aw_sI h 54 3 q1) 54 2 q3) 54 4 q5)))))))))
set_option maxRecDepth 100000 in
set_option maxHeartbeats 4000000 in
theorem ctX2_next (n : Nat) (h : aw_H) (y : Int32 × aw_H) (hF : FX2_next n h = some y) : Ct 3 0 0 yX2_next cX2_next 1 (some .int) [.ref 54] wL wR h (aw_D (some (.int y.1)) y.2) := by
  refine Ct.of (ls0 := [.ref 54]) (by decide +kernel) rfl rfl (fun X C E hnm => ?_)
  have C : aw_C X RX2 cX2_next 1 3 0 0 := C
  unfold FX2_next at hF
  refine aw_aload_0 C dX2_next_0 ?_
  refine aw_aload_0 C dX2_next_1 ?_
  refine aw_aload_0 C dX2_next_2 ?_
  refine aw_getI C dX2_next_3 fX2_25 gX2_4 rfl ?_
  refine aw_iconst C dX2_next_6 li_1 ?_
  obtain ⟨q1, e2, hF⟩ := bw_bind hF
  refine bw_V2i C dX2_next_7 kyX2_behind lX2_48 kiX2_behind kvX2_behind (aw_rv C rfl rfl) rfl rfl (ctX2_behind n (h.1 54 4) (1 : Int32) h q1 e2) ?_
  refine aw_putI C dX2_next_10 fX2_22 gX2_3 rfl ?_
  refine aw_aload_0 C dX2_next_13 ?_
  refine aw_aload_0 C dX2_next_14 ?_
  refine aw_aload_0 C dX2_next_15 ?_
  refine aw_getI C dX2_next_16 fX2_22 gX2_3 rfl ?_
  obtain ⟨q3, e4, hF⟩ := bw_bind hF
  refine bw_V1i C dX2_next_19 kyX2_sortAt lX2_45 kiX2_sortAt kvX2_sortAt (aw_rv C rfl rfl) rfl rfl (ctX2_sortAt ((aw_sI h 54 3 q1).1 54 3) (aw_sI h 54 3 q1) q3 e4) ?_
  refine aw_putI C dX2_next_22 fX2_19 gX2_2 rfl ?_
  refine aw_aload_0 C dX2_next_25 ?_
  refine aw_aload_0 C dX2_next_26 ?_
  refine aw_getI C dX2_next_27 fX2_19 gX2_2 rfl ?_
  refine aw_iconst C dX2_next_30 li_4 ?_
  refine bw_icmp_ne (tgt := 43) C dX2_next_31 (by decide) hF (fun hF => ?_) (fun hF => ?_)
  · refine aw_aload_0 C dX2_next_43 ?_
    refine aw_aload_0 C dX2_next_44 ?_
    refine aw_getI C dX2_next_45 fX2_22 gX2_3 rfl ?_
    refine aw_aload_0 C dX2_next_48 ?_
    refine aw_getI C dX2_next_49 fX2_19 gX2_2 rfl ?_
    obtain ⟨q5, e6, hF⟩ := bw_bind hF
    refine bw_V2i C dX2_next_52 kyX2_behind lX2_48 kiX2_behind kvX2_behind (aw_rv C rfl rfl) rfl rfl (ctX2_behind n ((aw_sI (aw_sI h 54 3 q1) 54 2 q3).1 54 3) ((aw_sI (aw_sI h 54 3 q1) 54 2 q3).1 54 2) (aw_sI (aw_sI h 54 3 q1) 54 2 q3) q5 e6) ?_
    refine aw_putI C dX2_next_55 fX2_25 gX2_4 rfl ?_
    refine aw_aload_0 C dX2_next_58 ?_
    refine aw_getI C dX2_next_59 fX2_19 gX2_2 rfl ?_
    obtain rfl := Option.some.inj hF
    exact aw_iret C E dX2_next_62 rfl rfl (bw_ret rfl)
  · refine aw_aload_0 C dX2_next_34 ?_
    refine aw_getI C dX2_next_35 fX2_22 gX2_3 rfl ?_
    refine aw_iconst C dX2_next_38 li_1 ?_
    refine aw_iadd C dX2_next_39 ?_
    refine aw_goto (tgt := 55) C dX2_next_40 (by decide) ?_
    refine aw_putI C dX2_next_55 fX2_25 gX2_4 rfl ?_
    refine aw_aload_0 C dX2_next_58 ?_
    refine aw_getI C dX2_next_59 fX2_19 gX2_2 rfl ?_
    obtain rfl := Option.some.inj hF
    exact aw_iret C E dX2_next_62 rfl rfl (bw_ret rfl)
def FX5_spellingOf (a1 : Int32) : Nat :=
  (if a1 = (0 : Int32) then 1000 else (if a1 = (1 : Int32) then 1001 else (if a1 = (2 : Int32) then 1002 else (if a1 = (3 : Int32) then 1003 else (if a1 = (4 : Int32) then 1004 else 1005)))))
set_option maxRecDepth 100000 in
set_option maxHeartbeats 4000000 in
theorem ctX5_spellingOf (a1 : Int32) (h : aw_H) (y : Nat) (hF : FX5_spellingOf a1 = y) : Ct 0 0 0 yX5_spellingOf cX5_spellingOf 1 (some (.object "java/lang/String")) [.int a1] wL wR h (aw_D (some (.ref y)) h) := by
  refine Ct.of (ls0 := [.int a1]) (by decide +kernel) rfl rfl (fun X C E hnm => ?_)
  have C : aw_C X RX5 cX5_spellingOf 1 0 0 0 := C
  unfold FX5_spellingOf at hF
  refine aw_iload_0 C dX5_spellingOf_0 ?_
  rcases Decidable.em (a1 = (0 : Int32)) with c1 | c1
  · rw [if_pos c1] at hF
    refine aw_tabIn (off := 35) (tgt := 36) C dX5_spellingOf_1 (by rw [c1]; decide) (by rw [c1]; decide) (by rw [c1]; rfl) (by decide) ?_
    refine aw_ldcwS (i := 0) C dX5_spellingOf_36 (by decide) rfl rfl ?_
    subst hF
    exact aw_aretR C E dX5_spellingOf_39 rfl rfl (bw_ret rfl)
  rw [if_neg c1] at hF
  rcases Decidable.em (a1 = (1 : Int32)) with c2 | c2
  · rw [if_pos c2] at hF
    refine aw_tabIn (off := 39) (tgt := 40) C dX5_spellingOf_1 (by rw [c2]; decide) (by rw [c2]; decide) (by rw [c2]; rfl) (by decide) ?_
    refine aw_ldcwS (i := 1) C dX5_spellingOf_40 (by decide) rfl rfl ?_
    subst hF
    exact aw_aretR C E dX5_spellingOf_43 rfl rfl (bw_ret rfl)
  rw [if_neg c2] at hF
  rcases Decidable.em (a1 = (2 : Int32)) with c3 | c3
  · rw [if_pos c3] at hF
    refine aw_tabIn (off := 43) (tgt := 44) C dX5_spellingOf_1 (by rw [c3]; decide) (by rw [c3]; decide) (by rw [c3]; rfl) (by decide) ?_
    refine aw_ldcwS (i := 2) C dX5_spellingOf_44 (by decide) rfl rfl ?_
    subst hF
    exact aw_aretR C E dX5_spellingOf_47 rfl rfl (bw_ret rfl)
  rw [if_neg c3] at hF
  rcases Decidable.em (a1 = (3 : Int32)) with c4 | c4
  · rw [if_pos c4] at hF
    refine aw_tabIn (off := 47) (tgt := 48) C dX5_spellingOf_1 (by rw [c4]; decide) (by rw [c4]; decide) (by rw [c4]; rfl) (by decide) ?_
    refine aw_ldcwS (i := 3) C dX5_spellingOf_48 (by decide) rfl rfl ?_
    subst hF
    exact aw_aretR C E dX5_spellingOf_51 rfl rfl (bw_ret rfl)
  rw [if_neg c4] at hF
  rcases Decidable.em (a1 = (4 : Int32)) with c5 | c5
  · rw [if_pos c5] at hF
    refine aw_tabIn (off := 51) (tgt := 52) C dX5_spellingOf_1 (by rw [c5]; decide) (by rw [c5]; decide) (by rw [c5]; rfl) (by decide) ?_
    refine aw_ldcwS (i := 4) C dX5_spellingOf_52 (by decide) rfl rfl ?_
    subst hF
    exact aw_aretR C E dX5_spellingOf_55 rfl rfl (bw_ret rfl)
  rw [if_neg c5] at hF
  refine aw_tabOut (tgt := 56) C dX5_spellingOf_1 (by
      have zc1 := bw_lit (z := 0) (by decide) c1
      have zc2 := bw_lit (z := 1) (by decide) c2
      have zc3 := bw_lit (z := 2) (by decide) c3
      have zc4 := bw_lit (z := 3) (by decide) c4
      have zc5 := bw_lit (z := 4) (by decide) c5
      omega) (by decide) ?_
  refine aw_ldcwS (i := 5) C dX5_spellingOf_56 (by decide) rfl rfl ?_
  subst hF
  exact aw_aretR C E dX5_spellingOf_59 rfl rfl (bw_ret rfl)
theorem kX5_spellingOf (a1 : Int32) : aw_isK (FX5_spellingOf a1) = true := by
  unfold FX5_spellingOf
  repeat' split
  all_goals rfl
def BX2_isSpelt_20 (a1 : Nat) (h : aw_H) (u20 : Int32) : Option (Int32 ⊕ Int32) :=
  (if (FJ0_length_8abf5 a1) ≤ u20 then some (Sum.inr (1 : Int32)) else ((FJ0_charAt_5068e a1 u20).bind (fun q1 => ((FX2_byteAt ((h.1 54 3) + u20) h).bind (fun q3 => (if q1 = q3 then some (Sum.inl (u20 + (1 : Int32))) else some (Sum.inr (0 : Int32))))))))
def FX2_isSpelt (n : Nat) (a1 : Nat) (h : aw_H) : Option (Int32) :=
  (if (FJ0_length_8abf5 a1) = ((h.1 54 4) - (h.1 54 3)) then aw_loop (BX2_isSpelt_20 a1 h) n (0 : Int32) else some (0 : Int32))
set_option maxRecDepth 100000 in
set_option maxHeartbeats 4000000 in
theorem ctX2_isSpelt (n : Nat) (a1 : Nat) (h : aw_H) (f1 : aw_isK a1 = true) (y : Int32) (hF : FX2_isSpelt n a1 h = some y) : Ct 4 0 0 yX2_isSpelt cX2_isSpelt 3 (some .boolean) [.ref 54, .ref a1] wL wR h (aw_D (some (.int y)) h) := by
  refine Ct.of (ls0 := [.ref 54, .ref a1, .retAddr 0]) (by decide +kernel) rfl rfl (fun X C E hnm => ?_)
  have C : aw_C X RX2 cX2_isSpelt 3 4 0 0 := C
  unfold FX2_isSpelt at hF
  refine aw_aload_1 C dX2_isSpelt_0 ?_
  refine bw_V0i C dX2_isSpelt_1 kyJ0_length_8abf5 lX2_81 kiJ0_length_8abf5 kvJ0_length_8abf5 (aw_rvK C f1 rfl) rfl rfl (ctJ0_length_8abf5 a1 h f1 _ rfl) ?_
  refine aw_aload_0 C dX2_isSpelt_4 ?_
  refine aw_getI C dX2_isSpelt_5 fX2_25 gX2_4 rfl ?_
  refine aw_aload_0 C dX2_isSpelt_8 ?_
  refine aw_getI C dX2_isSpelt_9 fX2_22 gX2_3 rfl ?_
  refine aw_isub C dX2_isSpelt_12 ?_
  refine bw_icmp_eq (tgt := 18) C dX2_isSpelt_13 (by decide) hF (fun hF => ?_) (fun hF => ?_)
  · refine aw_iconst C dX2_isSpelt_18 li_0 ?_
    refine aw_istore_2 C dX2_isSpelt_19 rfl rfl ?_
    refine aw_loop_rule (fun u20 : Int32 => AW X 3 20 [.ref 54, .ref a1, .int u20] [] wL wR h 0 0) (fun q => q = y) (fun u20 y20 hF hK => ?_) n (0 : Int32) _ hF rfl
    unfold BX2_isSpelt_20 at hF
    refine aw_iload_2 C dX2_isSpelt_20 ?_
    refine aw_aload_1 C dX2_isSpelt_21 ?_
    refine bw_V0i C dX2_isSpelt_22 kyJ0_length_8abf5 lX2_81 kiJ0_length_8abf5 kvJ0_length_8abf5 (aw_rvK C f1 rfl) rfl rfl (ctJ0_length_8abf5 a1 h f1 _ rfl) ?_
    refine bw_icmp_ge (tgt := 54) C dX2_isSpelt_25 (by decide) hF (fun hF => ?_) (fun hF => ?_)
    · refine aw_iconst C dX2_isSpelt_54 li_1 ?_
      obtain rfl := Option.some.inj hF
      have hK : _ = y := hK
      subst hK
      exact aw_zret C E rfl dX2_isSpelt_55 rfl rfl (bw_ret rfl)
    · refine aw_aload_1 C dX2_isSpelt_28 ?_
      refine aw_iload_2 C dX2_isSpelt_29 ?_
      obtain ⟨q1, e2, hF⟩ := bw_bind hF
      refine bw_V1i C dX2_isSpelt_30 kyJ0_charAt_5068e lX2_86 kiJ0_charAt_5068e kvJ0_charAt_5068e (aw_rvK C f1 rfl) rfl rfl (ctJ0_charAt_5068e a1 u20 h f1 q1 e2) ?_
      refine aw_aload_0 C dX2_isSpelt_33 ?_
      refine aw_aload_0 C dX2_isSpelt_34 ?_
      refine aw_getI C dX2_isSpelt_35 fX2_22 gX2_3 rfl ?_
      refine aw_iload_2 C dX2_isSpelt_38 ?_
      refine aw_iadd C dX2_isSpelt_39 ?_
      obtain ⟨q3, e4, hF⟩ := bw_bind hF
      refine bw_V1i C dX2_isSpelt_40 kyX2_byteAt lX2_37 kiX2_byteAt kvX2_byteAt (aw_rv C rfl rfl) rfl rfl (ctX2_byteAt ((h.1 54 3) + u20) h q3 e4) ?_
      refine bw_icmp_eq (tgt := 48) C dX2_isSpelt_43 (by decide) hF (fun hF => ?_) (fun hF => ?_)
      · refine aw_iinc_2 C dX2_isSpelt_48 li_1 rfl rfl ?_
        refine aw_goto (tgt := 20) C dX2_isSpelt_51 (by decide) ?_
        cases hF
        exact hK
      · refine aw_iconst C dX2_isSpelt_46 li_0 ?_
        obtain rfl := Option.some.inj hF
        have hK : _ = y := hK
        subst hK
        exact aw_zret C E rfl dX2_isSpelt_47 rfl rfl (bw_ret rfl)
  · refine aw_iconst C dX2_isSpelt_16 li_0 ?_
    obtain rfl := Option.some.inj hF
    exact aw_zret C E rfl dX2_isSpelt_17 rfl rfl (bw_ret rfl)
def BX2_wordRead_2 (n : Nat) (h : aw_H) (u2 : Int32) : Option (Int32 ⊕ Int32) :=
  (if (4 : Int32) < u2 then some (Sum.inr (-1 : Int32)) else ((FX2_isSpelt n (FX5_spellingOf u2) h).bind (fun q1 => (if q1 = 0 then some (Sum.inl (u2 + (1 : Int32))) else some (Sum.inr u2)))))
def FX2_wordRead (n : Nat) (h : aw_H) : Option (Int32) :=
  aw_loop (BX2_wordRead_2 n h) n (0 : Int32)
set_option maxRecDepth 100000 in
set_option maxHeartbeats 4000000 in
theorem ctX2_wordRead (n : Nat) (h : aw_H) (y : Int32) (hF : FX2_wordRead n h = some y) : Ct 5 0 0 yX2_wordRead cX2_wordRead 2 (some .int) [.ref 54] wL wR h (aw_D (some (.int y)) h) := by
  refine Ct.of (ls0 := [.ref 54, .retAddr 0]) (by decide +kernel) rfl rfl (fun X C E hnm => ?_)
  have C : aw_C X RX2 cX2_wordRead 2 5 0 0 := C
  unfold FX2_wordRead at hF
  refine aw_iconst C dX2_wordRead_0 li_0 ?_
  refine aw_istore_1 C dX2_wordRead_1 rfl rfl ?_
  refine aw_loop_rule (fun u2 : Int32 => AW X 2 2 [.ref 54, .int u2] [] wL wR h 0 0) (fun q => q = y) (fun u2 y2 hF hK => ?_) n (0 : Int32) _ hF rfl
  unfold BX2_wordRead_2 at hF
  refine aw_iload_1 C dX2_wordRead_2 ?_
  refine aw_iconst C dX2_wordRead_3 li_4 ?_
  refine bw_icmp_gt (tgt := 26) C dX2_wordRead_4 (by decide) hF (fun hF => ?_) (fun hF => ?_)
  · refine aw_iconst C dX2_wordRead_26 li_m1 ?_
    obtain rfl := Option.some.inj hF
    have hK : _ = y := hK
    subst hK
    exact aw_iret C E dX2_wordRead_27 rfl rfl (bw_ret rfl)
  · refine aw_aload_0 C dX2_wordRead_7 ?_
    refine aw_iload_1 C dX2_wordRead_8 ?_
    refine bw_N1r C dX2_wordRead_9 kyX5_spellingOf lX2_73 ksX5_spellingOf rfl rfl (ctX5_spellingOf u2 h _ rfl) ?_
    obtain ⟨q1, e2, hF⟩ := bw_bind hF
    refine bw_V1i C dX2_wordRead_12 kyX2_isSpelt lX2_77 kiX2_isSpelt kvX2_isSpelt (aw_rv C rfl rfl) rfl rfl (ctX2_isSpelt n (FX5_spellingOf u2) h (kX5_spellingOf u2) q1 e2) ?_
    refine bw_if_eq (tgt := 20) C dX2_wordRead_15 (by decide) hF (fun hF => ?_) (fun hF => ?_)
    · refine aw_iinc_1 C dX2_wordRead_20 li_1 rfl rfl ?_
      refine aw_goto (tgt := 2) C dX2_wordRead_23 (by decide) ?_
      cases hF
      exact hK
    · refine aw_iload_1 C dX2_wordRead_18 ?_
      obtain rfl := Option.some.inj hF
      have hK : _ = y := hK
      subst hK
      exact aw_iret C E dX2_wordRead_19 rfl rfl (bw_ret rfl)
def FX2_say (a1 : Int32) (h : aw_H) : Option (aw_H) :=
  (if (60 : Int32) ≤ (h.1 54 6) then some h else (if aw_inb (h.1 54 6) 60 = true then some (aw_sI (aw_sI h 56 ((h.1 54 6)).toNatClampNeg a1) 54 6 (((aw_sI h 56 ((h.1 54 6)).toNatClampNeg a1).1 54 6) + (1 : Int32))) else none))
set_option maxRecDepth 100000 in
set_option maxHeartbeats 4000000 in
theorem ctX2_say (a1 : Int32) (h : aw_H) (y : aw_H) (hF : FX2_say a1 h = some y) : Ct 0 0 0 yX2_say cX2_say 2 none [.ref 54, .int a1] wL wR h (aw_D (none) y) := by
  refine Ct.of (ls0 := [.ref 54, .int a1]) (by decide +kernel) rfl rfl (fun X C E hnm => ?_)
  have C : aw_C X RX2 cX2_say 2 0 0 0 := C
  unfold FX2_say at hF
  refine aw_aload_0 C dX2_say_0 ?_
  refine aw_getI C dX2_say_1 fX2_31 gX2_6 rfl ?_
  refine aw_aload_0 C dX2_say_4 ?_
  refine aw_getR C dX2_say_5 fX2_28 gX2_5 rfl rfl ?_
  refine aw_alen (t := 0) (v := 60) C dX2_say_8 (by decide) rfl (by decide) ?_
  refine bw_icmp_ge (tgt := 32) C dX2_say_9 (by decide) hF (fun hF => ?_) (fun hF => ?_)
  · obtain rfl := Option.some.inj hF
    exact aw_vret C E dX2_say_32 rfl rfl (bw_ret rfl)
  · refine aw_aload_0 C dX2_say_12 ?_
    refine aw_getR C dX2_say_13 fX2_28 gX2_5 rfl rfl ?_
    refine aw_aload_0 C dX2_say_16 ?_
    refine aw_getI C dX2_say_17 fX2_31 gX2_6 rfl ?_
    refine aw_iload_1 C dX2_say_20 ?_
    obtain ⟨s1, hF⟩ := bw_side hF
    refine aw_iast C dX2_say_21 rfl (aw_ix s1) ?_
    refine aw_aload_0 C dX2_say_22 ?_
    refine aw_dup C dX2_say_23 rfl ?_
    refine aw_getI C dX2_say_24 fX2_31 gX2_6 rfl ?_
    refine aw_iconst C dX2_say_27 li_1 ?_
    refine aw_iadd C dX2_say_28 ?_
    refine aw_putI C dX2_say_29 fX2_31 gX2_6 rfl ?_
    obtain rfl := Option.some.inj hF
    exact aw_vret C E dX2_say_32 rfl rfl (bw_ret rfl)
def FX5_numbersOf (a1 : Int32) : Option (Int32) :=
  (if (FX5_within a1 (0 : Int32) (4 : Int32)) = 0 then some (0 : Int32) else (if aw_inb a1 5 = true then some (aw_ro 2 (a1).toNatClampNeg) else none))
set_option maxRecDepth 100000 in
set_option maxHeartbeats 4000000 in
theorem ctX5_numbersOf (a1 : Int32) (h : aw_H) (y : Int32) (hF : FX5_numbersOf a1 = some y) : Ct 1 0 0 yX5_numbersOf cX5_numbersOf 1 (some .int) [.int a1] wL wR h (aw_D (some (.int y)) h) := by
  refine Ct.of (ls0 := [.int a1]) (by decide +kernel) rfl rfl (fun X C E hnm => ?_)
  have C : aw_C X RX5 cX5_numbersOf 1 1 0 0 := C
  unfold FX5_numbersOf at hF
  refine aw_iload_0 C dX5_numbersOf_0 ?_
  refine aw_iconst C dX5_numbersOf_1 li_0 ?_
  refine aw_iconst C dX5_numbersOf_2 li_4 ?_
  refine bw_S3i C dX5_numbersOf_3 kyX5_within lX5_91 ksX5_within rfl rfl (ctX5_within a1 (0 : Int32) (4 : Int32) h _ rfl) ?_
  refine bw_if_eq (tgt := 17) C dX5_numbersOf_6 (by decide) hF (fun hF => ?_) (fun hF => ?_)
  · refine aw_iconst C dX5_numbersOf_17 li_0 ?_
    obtain rfl := Option.some.inj hF
    exact aw_iret C E dX5_numbersOf_18 rfl rfl (bw_ret rfl)
  · refine aw_gets (t := 2) C dX5_numbersOf_9 (by decide) fX5_305 ?_
    refine aw_iload_0 C dX5_numbersOf_12 ?_
    obtain ⟨s1, hF⟩ := bw_side hF
    refine aw_tald (t := 2) C dX5_numbersOf_13 (by decide) (aw_ix s1) ?_
    refine aw_goto (tgt := 18) C dX5_numbersOf_14 (by decide) ?_
    obtain rfl := Option.some.inj hF
    exact aw_iret C E dX5_numbersOf_18 rfl rfl (bw_ret rfl)
def BX2_numberRead_7 (h : aw_H) (u7 : (Int32 × Int32)) : Option ((Int32 × Int32) ⊕ Int32) :=
  (if (h.1 54 4) ≤ u7.2 then some (Sum.inr u7.1) else ((FX2_byteAt u7.2 h).bind (fun q1 => some (Sum.inl ((((u7.1 * (10 : Int32)) + q1) - (48 : Int32)), (u7.2 + (1 : Int32)))))))
def FX2_numberRead (n : Nat) (h : aw_H) : Option (Int32) :=
  aw_loop (BX2_numberRead_7 h) n ((0 : Int32), (h.1 54 3))
set_option maxRecDepth 100000 in
set_option maxHeartbeats 4000000 in
theorem ctX2_numberRead (n : Nat) (h : aw_H) (y : Int32) (hF : FX2_numberRead n h = some y) : Ct 1 0 0 yX2_numberRead cX2_numberRead 3 (some .int) [.ref 54] wL wR h (aw_D (some (.int y)) h) := by
  refine Ct.of (ls0 := [.ref 54, .retAddr 0, .retAddr 0]) (by decide +kernel) rfl rfl (fun X C E hnm => ?_)
  have C : aw_C X RX2 cX2_numberRead 3 1 0 0 := C
  unfold FX2_numberRead at hF
  refine aw_iconst C dX2_numberRead_0 li_0 ?_
  refine aw_istore_1 C dX2_numberRead_1 rfl rfl ?_
  refine aw_aload_0 C dX2_numberRead_2 ?_
  refine aw_getI C dX2_numberRead_3 fX2_22 gX2_3 rfl ?_
  refine aw_istore_2 C dX2_numberRead_6 rfl rfl ?_
  refine aw_loop_rule (fun u7 : (Int32 × Int32) => AW X 3 7 [.ref 54, .int u7.1, .int u7.2] [] wL wR h 0 0) (fun q => q = y) (fun u7 y7 hF hK => ?_) n ((0 : Int32), (h.1 54 3)) _ hF rfl
  unfold BX2_numberRead_7 at hF
  refine aw_iload_2 C dX2_numberRead_7 ?_
  refine aw_aload_0 C dX2_numberRead_8 ?_
  refine aw_getI C dX2_numberRead_9 fX2_25 gX2_4 rfl ?_
  refine bw_icmp_ge (tgt := 35) C dX2_numberRead_12 (by decide) hF (fun hF => ?_) (fun hF => ?_)
  · refine aw_iload_1 C dX2_numberRead_35 ?_
    obtain rfl := Option.some.inj hF
    have hK : _ = y := hK
    subst hK
    exact aw_iret C E dX2_numberRead_36 rfl rfl (bw_ret rfl)
  · refine aw_iload_1 C dX2_numberRead_15 ?_
    refine aw_bipush C dX2_numberRead_16 lb_10 ?_
    refine aw_imul C dX2_numberRead_18 ?_
    refine aw_aload_0 C dX2_numberRead_19 ?_
    refine aw_iload_2 C dX2_numberRead_20 ?_
    obtain ⟨q1, e2, hF⟩ := bw_bind hF
    refine bw_V1i C dX2_numberRead_21 kyX2_byteAt lX2_37 kiX2_byteAt kvX2_byteAt (aw_rv C rfl rfl) rfl rfl (ctX2_byteAt u7.2 h q1 e2) ?_
    refine aw_iadd C dX2_numberRead_24 ?_
    refine aw_bipush C dX2_numberRead_25 lb_48 ?_
    refine aw_isub C dX2_numberRead_27 ?_
    refine aw_istore_1 C dX2_numberRead_28 rfl rfl ?_
    refine aw_iinc_2 C dX2_numberRead_29 li_1 rfl rfl ?_
    refine aw_goto (tgt := 7) C dX2_numberRead_32 (by decide) ?_
    cases hF
    exact hK
def BX2_readClause_39 (n : Nat) (q3 : Int32) (u39 : (Int32 × aw_H)) : Option ((Int32 × aw_H) ⊕ (Int32 × aw_H)) :=
  ((FX5_numbersOf q3).bind (fun q7 => (if q7 ≤ u39.1 then some (Sum.inr ((1 : Int32), u39.2)) else ((FX2_next n u39.2).bind (fun q9 => (if q9.1 = (3 : Int32) then (if ((q9.2.1 54 4) - (q9.2.1 54 3)) ≤ (4 : Int32) then ((FX2_numberRead n q9.2).bind (fun q11 => ((FX2_say q11 q9.2).bind (fun q13 => some (Sum.inl ((u39.1 + (1 : Int32)), q13)))))) else some (Sum.inr ((0 : Int32), q9.2))) else some (Sum.inr ((0 : Int32), q9.2))))))))
def FX2_readClause (n : Nat) (h : aw_H) : Option (Int32 × aw_H) :=
  ((FX2_next n h).bind (fun q1 => (if q1.1 = (2 : Int32) then ((FX2_wordRead n q1.2).bind (fun q3 => (if q3 = (-1 : Int32) then some ((0 : Int32), q1.2) else ((FX2_say q3 (aw_sI q1.2 54 7 ((q1.2.1 54 7) + (1 : Int32)))).bind (fun q5 => aw_loop (BX2_readClause_39 n q3) n ((0 : Int32), q5)))))) else some ((0 : Int32), q1.2))))
set_option maxRecDepth 100000 in
set_option maxHeartbeats 4000000 in
theorem ctX2_readClause (n : Nat) (h : aw_H) (y : Int32 × aw_H) (hF : FX2_readClause n h = some y) : Ct 6 0 0 yX2_readClause cX2_readClause 3 (some .boolean) [.ref 54] wL wR h (aw_D (some (.int y.1)) y.2) := by
  refine Ct.of (ls0 := [.ref 54, .retAddr 0, .retAddr 0]) (by decide +kernel) rfl rfl (fun X C E hnm => ?_)
  have C : aw_C X RX2 cX2_readClause 3 6 0 0 := C
  unfold FX2_readClause at hF
  refine aw_aload_0 C dX2_readClause_0 ?_
  obtain ⟨q1, e2, hF⟩ := bw_bind hF
  refine bw_V0i C dX2_readClause_1 kyX2_next lX2_56 kiX2_next kvX2_next (aw_rv C rfl rfl) rfl rfl (ctX2_next n h q1 e2) ?_
  refine aw_iconst C dX2_readClause_4 li_2 ?_
  refine bw_icmp_eq (tgt := 10) C dX2_readClause_5 (by decide) hF (fun hF => ?_) (fun hF => ?_)
  · refine aw_aload_0 C dX2_readClause_10 ?_
    obtain ⟨q3, e4, hF⟩ := bw_bind hF
    refine bw_V0i C dX2_readClause_11 kyX2_wordRead lX2_60 kiX2_wordRead kvX2_wordRead (aw_rv C rfl rfl) rfl rfl (ctX2_wordRead n q1.2 q3 e4) ?_
    refine aw_istore_1 C dX2_readClause_14 rfl rfl ?_
    refine aw_iload_1 C dX2_readClause_15 ?_
    refine aw_iconst C dX2_readClause_16 li_m1 ?_
    refine bw_icmp_ne (tgt := 22) C dX2_readClause_17 (by decide) hF (fun hF => ?_) (fun hF => ?_)
    · refine aw_aload_0 C dX2_readClause_22 ?_
      refine aw_dup C dX2_readClause_23 rfl ?_
      refine aw_getI C dX2_readClause_24 fX2_34 gX2_7 rfl ?_
      refine aw_iconst C dX2_readClause_27 li_1 ?_
      refine aw_iadd C dX2_readClause_28 ?_
      refine aw_putI C dX2_readClause_29 fX2_34 gX2_7 rfl ?_
      refine aw_aload_0 C dX2_readClause_32 ?_
      refine aw_iload_1 C dX2_readClause_33 ?_
      obtain ⟨q5, e6, hF⟩ := bw_bind hF
      refine bw_V1v C dX2_readClause_34 kyX2_say lX2_63 kiX2_say kvX2_say (aw_rv C rfl rfl) rfl rfl (ctX2_say q3 (aw_sI q1.2 54 7 ((q1.2.1 54 7) + (1 : Int32))) q5 e6) ?_
      refine aw_iconst C dX2_readClause_37 li_0 ?_
      refine aw_istore_2 C dX2_readClause_38 rfl rfl ?_
      refine aw_loop_rule (fun u39 : (Int32 × aw_H) => AW X 3 39 [.ref 54, .int q3, .int u39.1] [] wL wR u39.2 0 0) (fun q => q = y) (fun u39 y39 hF hK => ?_) n ((0 : Int32), q5) _ hF rfl
      unfold BX2_readClause_39 at hF
      refine aw_iload_2 C dX2_readClause_39 ?_
      refine aw_iload_1 C dX2_readClause_40 ?_
      obtain ⟨q7, e8, hF⟩ := bw_bind hF
      refine bw_N1i C dX2_readClause_41 kyX5_numbersOf lX2_67 ksX5_numbersOf rfl rfl (ctX5_numbersOf q3 u39.2 q7 e8) ?_
      refine bw_icmp_ge (tgt := 84) C dX2_readClause_44 (by decide) hF (fun hF => ?_) (fun hF => ?_)
      · refine aw_iconst C dX2_readClause_84 li_1 ?_
        obtain rfl := Option.some.inj hF
        have hK : _ = y := hK
        subst hK
        exact aw_zret C E rfl dX2_readClause_85 rfl rfl (bw_ret rfl)
      · refine aw_aload_0 C dX2_readClause_47 ?_
        obtain ⟨q9, e10, hF⟩ := bw_bind hF
        refine bw_V0i C dX2_readClause_48 kyX2_next lX2_56 kiX2_next kvX2_next (aw_rv C rfl rfl) rfl rfl (ctX2_next n u39.2 q9 e10) ?_
        refine aw_iconst C dX2_readClause_51 li_3 ?_
        refine bw_icmp_ne (tgt := 68) C dX2_readClause_52 (by decide) hF (fun hF => ?_) (fun hF => ?_)
        · refine aw_iconst C dX2_readClause_68 li_0 ?_
          obtain rfl := Option.some.inj hF
          have hK : _ = y := hK
          subst hK
          exact aw_zret C E rfl dX2_readClause_69 rfl rfl (bw_ret rfl)
        · refine aw_aload_0 C dX2_readClause_55 ?_
          refine aw_getI C dX2_readClause_56 fX2_25 gX2_4 rfl ?_
          refine aw_aload_0 C dX2_readClause_59 ?_
          refine aw_getI C dX2_readClause_60 fX2_22 gX2_3 rfl ?_
          refine aw_isub C dX2_readClause_63 ?_
          refine aw_iconst C dX2_readClause_64 li_4 ?_
          refine bw_icmp_le (tgt := 70) C dX2_readClause_65 (by decide) hF (fun hF => ?_) (fun hF => ?_)
          · refine aw_aload_0 C dX2_readClause_70 ?_
            refine aw_aload_0 C dX2_readClause_71 ?_
            obtain ⟨q11, e12, hF⟩ := bw_bind hF
            refine bw_V0i C dX2_readClause_72 kyX2_numberRead lX2_70 kiX2_numberRead kvX2_numberRead (aw_rv C rfl rfl) rfl rfl (ctX2_numberRead n q9.2 q11 e12) ?_
            obtain ⟨q13, e14, hF⟩ := bw_bind hF
            refine bw_V1v C dX2_readClause_75 kyX2_say lX2_63 kiX2_say kvX2_say (aw_rv C rfl rfl) rfl rfl (ctX2_say q11 q9.2 q13 e14) ?_
            refine aw_iinc_2 C dX2_readClause_78 li_1 rfl rfl ?_
            refine aw_goto (tgt := 39) C dX2_readClause_81 (by decide) ?_
            cases hF
            exact hK
          · refine aw_iconst C dX2_readClause_68 li_0 ?_
            obtain rfl := Option.some.inj hF
            have hK : _ = y := hK
            subst hK
            exact aw_zret C E rfl dX2_readClause_69 rfl rfl (bw_ret rfl)
    · refine aw_iconst C dX2_readClause_20 li_0 ?_
      obtain rfl := Option.some.inj hF
      exact aw_zret C E rfl dX2_readClause_21 rfl rfl (bw_ret rfl)
  · refine aw_iconst C dX2_readClause_8 li_0 ?_
    obtain rfl := Option.some.inj hF
    exact aw_zret C E rfl dX2_readClause_9 rfl rfl (bw_ret rfl)
def BX2_findFault_22 (n : Nat) (u22 : (Int32 × Int32 × aw_H)) : Option ((Int32 × Int32 × aw_H) ⊕ (Int32 × aw_H)) :=
  (if (60 : Int32) ≤ u22.2.1 then (if u22.1 = 0 then some (Sum.inr ((u22.2.2.1 54 3), u22.2.2)) else (if (u22.2.2.1 54 2) = 0 then some (Sum.inr ((-1 : Int32), u22.2.2)) else some (Sum.inr ((u22.2.2.1 54 3), u22.2.2)))) else (if u22.1 = 0 then (if u22.1 = 0 then some (Sum.inr ((u22.2.2.1 54 3), u22.2.2)) else (if (u22.2.2.1 54 2) = 0 then some (Sum.inr ((-1 : Int32), u22.2.2)) else some (Sum.inr ((u22.2.2.1 54 3), u22.2.2)))) else ((FX2_next n u22.2.2).bind (fun q3 => (if q3.1 = (4 : Int32) then ((FX2_readClause n q3.2).bind (fun q5 => some (Sum.inl (q5.1, (u22.2.1 + (1 : Int32)), q5.2)))) else (if u22.1 = 0 then some (Sum.inr ((q3.2.1 54 3), q3.2)) else (if (q3.2.1 54 2) = 0 then some (Sum.inr ((-1 : Int32), q3.2)) else some (Sum.inr ((q3.2.1 54 3), q3.2)))))))))
def FX2_findFault (n : Nat) (h : aw_H) : Option (Int32 × aw_H) :=
  ((FX2_readClause n (aw_sI (aw_sI (aw_sI h 54 4 (0 : Int32)) 54 6 (0 : Int32)) 54 7 (0 : Int32))).bind (fun q1 => aw_loop (BX2_findFault_22 n) n (q1.1, (0 : Int32), q1.2)))
set_option maxRecDepth 100000 in
set_option maxHeartbeats 4000000 in
theorem ctX2_findFault (n : Nat) (h : aw_H) (y : Int32 × aw_H) (hF : FX2_findFault n h = some y) : Ct 7 0 0 yX2_findFault cX2_findFault 3 (some .int) [.ref 54] wL wR h (aw_D (some (.int y.1)) y.2) := by
  refine Ct.of (ls0 := [.ref 54, .retAddr 0, .retAddr 0]) (by decide +kernel) rfl rfl (fun X C E hnm => ?_)
  have C : aw_C X RX2 cX2_findFault 3 7 0 0 := C
  unfold FX2_findFault at hF
  refine aw_aload_0 C dX2_findFault_0 ?_
  refine aw_iconst C dX2_findFault_1 li_0 ?_
  refine aw_putI C dX2_findFault_2 fX2_25 gX2_4 rfl ?_
  refine aw_aload_0 C dX2_findFault_5 ?_
  refine aw_iconst C dX2_findFault_6 li_0 ?_
  refine aw_putI C dX2_findFault_7 fX2_31 gX2_6 rfl ?_
  refine aw_aload_0 C dX2_findFault_10 ?_
  refine aw_iconst C dX2_findFault_11 li_0 ?_
  refine aw_putI C dX2_findFault_12 fX2_34 gX2_7 rfl ?_
  refine aw_aload_0 C dX2_findFault_15 ?_
  obtain ⟨q1, e2, hF⟩ := bw_bind hF
  refine bw_V0i C dX2_findFault_16 kyX2_readClause lX2_52 kiX2_readClause kvX2_readClause (aw_rv C rfl rfl) rfl rfl (ctX2_readClause n (aw_sI (aw_sI (aw_sI h 54 4 (0 : Int32)) 54 6 (0 : Int32)) 54 7 (0 : Int32)) q1 e2) ?_
  refine aw_istore_1 C dX2_findFault_19 rfl rfl ?_
  refine aw_iconst C dX2_findFault_20 li_0 ?_
  refine aw_istore_2 C dX2_findFault_21 rfl rfl ?_
  refine aw_loop_rule (fun u22 : (Int32 × Int32 × aw_H) => AW X 3 22 [.ref 54, .int u22.1, .int u22.2.1] [] wL wR u22.2.2 0 0) (fun q => q = y) (fun u22 y22 hF hK => ?_) n (q1.1, (0 : Int32), q1.2) _ hF rfl
  unfold BX2_findFault_22 at hF
  refine aw_iload_2 C dX2_findFault_22 ?_
  refine aw_bipush C dX2_findFault_23 lb_60 ?_
  refine bw_icmp_ge (tgt := 51) C dX2_findFault_25 (by decide) hF (fun hF => ?_) (fun hF => ?_)
  · refine aw_iload_1 C dX2_findFault_51 ?_
    refine bw_if_eq (tgt := 66) C dX2_findFault_52 (by decide) hF (fun hF => ?_) (fun hF => ?_)
    · refine aw_aload_0 C dX2_findFault_66 ?_
      refine aw_getI C dX2_findFault_67 fX2_22 gX2_3 rfl ?_
      obtain rfl := Option.some.inj hF
      have hK : _ = y := hK
      subst hK
      exact aw_iret C E dX2_findFault_70 rfl rfl (bw_ret rfl)
    · refine aw_aload_0 C dX2_findFault_55 ?_
      refine aw_getI C dX2_findFault_56 fX2_19 gX2_2 rfl ?_
      refine bw_if_ne (tgt := 66) C dX2_findFault_59 (by decide) hF (fun hF => ?_) (fun hF => ?_)
      · refine aw_aload_0 C dX2_findFault_66 ?_
        refine aw_getI C dX2_findFault_67 fX2_22 gX2_3 rfl ?_
        obtain rfl := Option.some.inj hF
        have hK : _ = y := hK
        subst hK
        exact aw_iret C E dX2_findFault_70 rfl rfl (bw_ret rfl)
      · refine aw_iconst C dX2_findFault_62 li_m1 ?_
        refine aw_goto (tgt := 70) C dX2_findFault_63 (by decide) ?_
        obtain rfl := Option.some.inj hF
        have hK : _ = y := hK
        subst hK
        exact aw_iret C E dX2_findFault_70 rfl rfl (bw_ret rfl)
  · refine aw_iload_1 C dX2_findFault_28 ?_
    refine bw_if_eq (tgt := 51) C dX2_findFault_29 (by decide) hF (fun hF => ?_) (fun hF => ?_)
    · refine aw_iload_1 C dX2_findFault_51 ?_
      refine bw_if_eq (tgt := 66) C dX2_findFault_52 (by decide) hF (fun hF => ?_) (fun hF => ?_)
      · refine aw_aload_0 C dX2_findFault_66 ?_
        refine aw_getI C dX2_findFault_67 fX2_22 gX2_3 rfl ?_
        obtain rfl := Option.some.inj hF
        have hK : _ = y := hK
        subst hK
        exact aw_iret C E dX2_findFault_70 rfl rfl (bw_ret rfl)
      · refine aw_aload_0 C dX2_findFault_55 ?_
        refine aw_getI C dX2_findFault_56 fX2_19 gX2_2 rfl ?_
        refine bw_if_ne (tgt := 66) C dX2_findFault_59 (by decide) hF (fun hF => ?_) (fun hF => ?_)
        · refine aw_aload_0 C dX2_findFault_66 ?_
          refine aw_getI C dX2_findFault_67 fX2_22 gX2_3 rfl ?_
          obtain rfl := Option.some.inj hF
          have hK : _ = y := hK
          subst hK
          exact aw_iret C E dX2_findFault_70 rfl rfl (bw_ret rfl)
        · refine aw_iconst C dX2_findFault_62 li_m1 ?_
          refine aw_goto (tgt := 70) C dX2_findFault_63 (by decide) ?_
          obtain rfl := Option.some.inj hF
          have hK : _ = y := hK
          subst hK
          exact aw_iret C E dX2_findFault_70 rfl rfl (bw_ret rfl)
    · refine aw_aload_0 C dX2_findFault_32 ?_
      obtain ⟨q3, e4, hF⟩ := bw_bind hF
      refine bw_V0i C dX2_findFault_33 kyX2_next lX2_56 kiX2_next kvX2_next (aw_rv C rfl rfl) rfl rfl (ctX2_next n u22.2.2 q3 e4) ?_
      refine aw_iconst C dX2_findFault_36 li_4 ?_
      refine bw_icmp_ne (tgt := 51) C dX2_findFault_37 (by decide) hF (fun hF => ?_) (fun hF => ?_)
      · refine aw_iload_1 C dX2_findFault_51 ?_
        refine bw_if_eq (tgt := 66) C dX2_findFault_52 (by decide) hF (fun hF => ?_) (fun hF => ?_)
        · refine aw_aload_0 C dX2_findFault_66 ?_
          refine aw_getI C dX2_findFault_67 fX2_22 gX2_3 rfl ?_
          obtain rfl := Option.some.inj hF
          have hK : _ = y := hK
          subst hK
          exact aw_iret C E dX2_findFault_70 rfl rfl (bw_ret rfl)
        · refine aw_aload_0 C dX2_findFault_55 ?_
          refine aw_getI C dX2_findFault_56 fX2_19 gX2_2 rfl ?_
          refine bw_if_ne (tgt := 66) C dX2_findFault_59 (by decide) hF (fun hF => ?_) (fun hF => ?_)
          · refine aw_aload_0 C dX2_findFault_66 ?_
            refine aw_getI C dX2_findFault_67 fX2_22 gX2_3 rfl ?_
            obtain rfl := Option.some.inj hF
            have hK : _ = y := hK
            subst hK
            exact aw_iret C E dX2_findFault_70 rfl rfl (bw_ret rfl)
          · refine aw_iconst C dX2_findFault_62 li_m1 ?_
            refine aw_goto (tgt := 70) C dX2_findFault_63 (by decide) ?_
            obtain rfl := Option.some.inj hF
            have hK : _ = y := hK
            subst hK
            exact aw_iret C E dX2_findFault_70 rfl rfl (bw_ret rfl)
      · refine aw_aload_0 C dX2_findFault_40 ?_
        obtain ⟨q5, e6, hF⟩ := bw_bind hF
        refine bw_V0i C dX2_findFault_41 kyX2_readClause lX2_52 kiX2_readClause kvX2_readClause (aw_rv C rfl rfl) rfl rfl (ctX2_readClause n q3.2 q5 e6) ?_
        refine aw_istore_1 C dX2_findFault_44 rfl rfl ?_
        refine aw_iinc_2 C dX2_findFault_45 li_1 rfl rfl ?_
        refine aw_goto (tgt := 22) C dX2_findFault_48 (by decide) ?_
        cases hF
        exact hK
def FX2_saidAt (a1 : Int32) (h : aw_H) : Option (Int32) :=
  (if a1 < 0 then some (0 : Int32) else (if (h.1 54 6) ≤ a1 then some (0 : Int32) else (if aw_inb a1 60 = true then some (h.1 56 (a1).toNatClampNeg) else none)))
set_option maxRecDepth 100000 in
set_option maxHeartbeats 4000000 in
theorem ctX2_saidAt (a1 : Int32) (h : aw_H) (y : Int32) (hF : FX2_saidAt a1 h = some y) : Ct 0 0 0 yX2_saidAt cX2_saidAt 2 (some .int) [.ref 54, .int a1] wL wR h (aw_D (some (.int y)) h) := by
  refine Ct.of (ls0 := [.ref 54, .int a1]) (by decide +kernel) rfl rfl (fun X C E hnm => ?_)
  have C : aw_C X RX2 cX2_saidAt 2 0 0 0 := C
  unfold FX2_saidAt at hF
  refine aw_iload_1 C dX2_saidAt_0 ?_
  refine bw_if_lt (tgt := 21) C dX2_saidAt_1 (by decide) hF (fun hF => ?_) (fun hF => ?_)
  · refine aw_iconst C dX2_saidAt_21 li_0 ?_
    obtain rfl := Option.some.inj hF
    exact aw_iret C E dX2_saidAt_22 rfl rfl (bw_ret rfl)
  · refine aw_iload_1 C dX2_saidAt_4 ?_
    refine aw_aload_0 C dX2_saidAt_5 ?_
    refine aw_getI C dX2_saidAt_6 fX2_31 gX2_6 rfl ?_
    refine bw_icmp_ge (tgt := 21) C dX2_saidAt_9 (by decide) hF (fun hF => ?_) (fun hF => ?_)
    · refine aw_iconst C dX2_saidAt_21 li_0 ?_
      obtain rfl := Option.some.inj hF
      exact aw_iret C E dX2_saidAt_22 rfl rfl (bw_ret rfl)
    · refine aw_aload_0 C dX2_saidAt_12 ?_
      refine aw_getR C dX2_saidAt_13 fX2_28 gX2_5 rfl rfl ?_
      refine aw_iload_1 C dX2_saidAt_16 ?_
      obtain ⟨s1, hF⟩ := bw_side hF
      refine aw_iald C dX2_saidAt_17 rfl (aw_ix s1) ?_
      refine aw_goto (tgt := 22) C dX2_saidAt_18 (by decide) ?_
      obtain rfl := Option.some.inj hF
      exact aw_iret C E dX2_saidAt_22 rfl rfl (bw_ret rfl)
def FX3_become (a0 : Nat) (a1 : Nat) (h : aw_H) : Option (aw_H) :=
  some (aw_sL (aw_sL (aw_sI (aw_cI (aw_cI (aw_cI h (a1 + 1) (a0 + 1) ((0 : Int32)).toNatClampNeg ((0 : Int32)).toNatClampNeg ((4 : Int32)).toNatClampNeg) (a1 + 2) (a0 + 2) ((0 : Int32)).toNatClampNeg ((0 : Int32)).toNatClampNeg ((3 : Int32)).toNatClampNeg) (a1 + 3) (a0 + 3) ((0 : Int32)).toNatClampNeg ((0 : Int32)).toNatClampNeg ((3 : Int32)).toNatClampNeg) a0 3 ((aw_cI (aw_cI (aw_cI h (a1 + 1) (a0 + 1) ((0 : Int32)).toNatClampNeg ((0 : Int32)).toNatClampNeg ((4 : Int32)).toNatClampNeg) (a1 + 2) (a0 + 2) ((0 : Int32)).toNatClampNeg ((0 : Int32)).toNatClampNeg ((3 : Int32)).toNatClampNeg) (a1 + 3) (a0 + 3) ((0 : Int32)).toNatClampNeg ((0 : Int32)).toNatClampNeg ((3 : Int32)).toNatClampNeg).1 a1 3)) a0 4 ((aw_sI (aw_cI (aw_cI (aw_cI h (a1 + 1) (a0 + 1) ((0 : Int32)).toNatClampNeg ((0 : Int32)).toNatClampNeg ((4 : Int32)).toNatClampNeg) (a1 + 2) (a0 + 2) ((0 : Int32)).toNatClampNeg ((0 : Int32)).toNatClampNeg ((3 : Int32)).toNatClampNeg) (a1 + 3) (a0 + 3) ((0 : Int32)).toNatClampNeg ((0 : Int32)).toNatClampNeg ((3 : Int32)).toNatClampNeg) a0 3 ((aw_cI (aw_cI (aw_cI h (a1 + 1) (a0 + 1) ((0 : Int32)).toNatClampNeg ((0 : Int32)).toNatClampNeg ((4 : Int32)).toNatClampNeg) (a1 + 2) (a0 + 2) ((0 : Int32)).toNatClampNeg ((0 : Int32)).toNatClampNeg ((3 : Int32)).toNatClampNeg) (a1 + 3) (a0 + 3) ((0 : Int32)).toNatClampNeg ((0 : Int32)).toNatClampNeg ((3 : Int32)).toNatClampNeg).1 a1 3)).2 a1 4)) a0 5 ((aw_sL (aw_sI (aw_cI (aw_cI (aw_cI h (a1 + 1) (a0 + 1) ((0 : Int32)).toNatClampNeg ((0 : Int32)).toNatClampNeg ((4 : Int32)).toNatClampNeg) (a1 + 2) (a0 + 2) ((0 : Int32)).toNatClampNeg ((0 : Int32)).toNatClampNeg ((3 : Int32)).toNatClampNeg) (a1 + 3) (a0 + 3) ((0 : Int32)).toNatClampNeg ((0 : Int32)).toNatClampNeg ((3 : Int32)).toNatClampNeg) a0 3 ((aw_cI (aw_cI (aw_cI h (a1 + 1) (a0 + 1) ((0 : Int32)).toNatClampNeg ((0 : Int32)).toNatClampNeg ((4 : Int32)).toNatClampNeg) (a1 + 2) (a0 + 2) ((0 : Int32)).toNatClampNeg ((0 : Int32)).toNatClampNeg ((3 : Int32)).toNatClampNeg) (a1 + 3) (a0 + 3) ((0 : Int32)).toNatClampNeg ((0 : Int32)).toNatClampNeg ((3 : Int32)).toNatClampNeg).1 a1 3)) a0 4 ((aw_sI (aw_cI (aw_cI (aw_cI h (a1 + 1) (a0 + 1) ((0 : Int32)).toNatClampNeg ((0 : Int32)).toNatClampNeg ((4 : Int32)).toNatClampNeg) (a1 + 2) (a0 + 2) ((0 : Int32)).toNatClampNeg ((0 : Int32)).toNatClampNeg ((3 : Int32)).toNatClampNeg) (a1 + 3) (a0 + 3) ((0 : Int32)).toNatClampNeg ((0 : Int32)).toNatClampNeg ((3 : Int32)).toNatClampNeg) a0 3 ((aw_cI (aw_cI (aw_cI h (a1 + 1) (a0 + 1) ((0 : Int32)).toNatClampNeg ((0 : Int32)).toNatClampNeg ((4 : Int32)).toNatClampNeg) (a1 + 2) (a0 + 2) ((0 : Int32)).toNatClampNeg ((0 : Int32)).toNatClampNeg ((3 : Int32)).toNatClampNeg) (a1 + 3) (a0 + 3) ((0 : Int32)).toNatClampNeg ((0 : Int32)).toNatClampNeg ((3 : Int32)).toNatClampNeg).1 a1 3)).2 a1 4)).2 a1 5))
set_option maxRecDepth 100000 in
set_option maxHeartbeats 4000000 in
theorem ctX3_become (a0 : Nat) (a1 : Nat) (h : aw_H) (f0 : aw_isW a0 = true) (f1 : aw_isW a1 = true) (y : aw_H) (hF : FX3_become a0 a1 h = some y) : Ct 1 0 0 yX3_become cX3_become 2 none [.ref a0, .ref a1] wL wR h (aw_D (none) y) := by
  refine Ct.of (ls0 := [.ref a0, .ref a1]) (by decide +kernel) rfl rfl (fun X C E hnm => ?_)
  have C : aw_C X RX3 cX3_become 2 1 0 0 := C
  unfold FX3_become at hF
  refine aw_aload_1 C dX3_become_0 ?_
  refine aw_getR C dX3_become_1 fX3_9 gX3_0 (aw_w1 f1) (aw_wr0 f1) ?_
  refine aw_iconst C dX3_become_4 li_0 ?_
  refine aw_aload_0 C dX3_become_5 ?_
  refine aw_getR C dX3_become_6 fX3_9 gX3_0 (aw_w1 f0) (aw_wr0 f0) ?_
  refine aw_iconst C dX3_become_9 li_0 ?_
  refine aw_iconst C dX3_become_10 li_4 ?_
  refine bw_copy_int C dX3_become_11 lX3_32 rfl rfl (aw_wa0 f1) (aw_wa0 f0) (by decide) ?_
  refine aw_aload_1 C dX3_become_14 ?_
  refine aw_getR C dX3_become_15 fX3_15 gX3_1 (aw_w1 f1) (aw_wr1 f1) ?_
  refine aw_iconst C dX3_become_18 li_0 ?_
  refine aw_aload_0 C dX3_become_19 ?_
  refine aw_getR C dX3_become_20 fX3_15 gX3_1 (aw_w1 f0) (aw_wr1 f0) ?_
  refine aw_iconst C dX3_become_23 li_0 ?_
  refine aw_iconst C dX3_become_24 li_3 ?_
  refine bw_copy_int C dX3_become_25 lX3_32 rfl rfl (aw_wa1 f1) (aw_wa1 f0) (by decide) ?_
  refine aw_aload_1 C dX3_become_28 ?_
  refine aw_getR C dX3_become_29 fX3_18 gX3_2 (aw_w1 f1) (aw_wr2 f1) ?_
  refine aw_iconst C dX3_become_32 li_0 ?_
  refine aw_aload_0 C dX3_become_33 ?_
  refine aw_getR C dX3_become_34 fX3_18 gX3_2 (aw_w1 f0) (aw_wr2 f0) ?_
  refine aw_iconst C dX3_become_37 li_0 ?_
  refine aw_iconst C dX3_become_38 li_3 ?_
  refine bw_copy_int C dX3_become_39 lX3_32 rfl rfl (aw_wa2 f1) (aw_wa2 f0) (by decide) ?_
  refine aw_aload_0 C dX3_become_42 ?_
  refine aw_aload_1 C dX3_become_43 ?_
  refine aw_getI C dX3_become_44 fX3_21 gX3_3 (aw_w1 f1) ?_
  refine aw_putI C dX3_become_47 fX3_21 gX3_3 (aw_w1 f0) ?_
  refine aw_aload_0 C dX3_become_50 ?_
  refine aw_aload_1 C dX3_become_51 ?_
  refine aw_getL C dX3_become_52 fX3_25 gX3_4 (aw_w1 f1) ?_
  refine aw_putL C dX3_become_55 fX3_25 gX3_4 (aw_w1 f0) ?_
  refine aw_aload_0 C dX3_become_58 ?_
  refine aw_aload_1 C dX3_become_59 ?_
  refine aw_getL C dX3_become_60 fX3_29 gX3_5 (aw_w1 f1) ?_
  refine aw_putL C dX3_become_63 fX3_29 gX3_5 (aw_w1 f0) ?_
  obtain rfl := Option.some.inj hF
  exact aw_vret C E dX3_become_66 rfl rfl (bw_ret rfl)
def FX3_addPair (a0 : Nat) (a1 : Int32) (a2 : Int32) (h : aw_H) : Option (Int32 × aw_H) :=
  (if (h.1 a0 3) < (3 : Int32) then (if aw_inb (h.1 a0 3) 3 = true then (if aw_inb ((aw_sI h (a0 + 2) ((h.1 a0 3)).toNatClampNeg a1).1 a0 3) 3 = true then some (((aw_sI (aw_sI (aw_sI h (a0 + 2) ((h.1 a0 3)).toNatClampNeg a1) (a0 + 3) (((aw_sI h (a0 + 2) ((h.1 a0 3)).toNatClampNeg a1).1 a0 3)).toNatClampNeg a2) a0 3 (((aw_sI (aw_sI h (a0 + 2) ((h.1 a0 3)).toNatClampNeg a1) (a0 + 3) (((aw_sI h (a0 + 2) ((h.1 a0 3)).toNatClampNeg a1).1 a0 3)).toNatClampNeg a2).1 a0 3) + (1 : Int32))).1 a0 3), (aw_sI (aw_sI (aw_sI h (a0 + 2) ((h.1 a0 3)).toNatClampNeg a1) (a0 + 3) (((aw_sI h (a0 + 2) ((h.1 a0 3)).toNatClampNeg a1).1 a0 3)).toNatClampNeg a2) a0 3 (((aw_sI (aw_sI h (a0 + 2) ((h.1 a0 3)).toNatClampNeg a1) (a0 + 3) (((aw_sI h (a0 + 2) ((h.1 a0 3)).toNatClampNeg a1).1 a0 3)).toNatClampNeg a2).1 a0 3) + (1 : Int32)))) else none) else none) else some ((-4 : Int32), h))
set_option maxRecDepth 100000 in
set_option maxHeartbeats 4000000 in
theorem ctX3_addPair (a0 : Nat) (a1 : Int32) (a2 : Int32) (h : aw_H) (f0 : aw_isW a0 = true) (y : Int32 × aw_H) (hF : FX3_addPair a0 a1 a2 h = some y) : Ct 0 0 0 yX3_addPair cX3_addPair 3 (some .int) [.ref a0, .int a1, .int a2] wL wR h (aw_D (some (.int y.1)) y.2) := by
  refine Ct.of (ls0 := [.ref a0, .int a1, .int a2]) (by decide +kernel) rfl rfl (fun X C E hnm => ?_)
  have C : aw_C X RX3 cX3_addPair 3 0 0 0 := C
  unfold FX3_addPair at hF
  refine aw_aload_0 C dX3_addPair_0 ?_
  refine aw_getI C dX3_addPair_1 fX3_21 gX3_3 (aw_w1 f0) ?_
  refine aw_iconst C dX3_addPair_4 li_3 ?_
  refine bw_icmp_lt (tgt := 11) C dX3_addPair_5 (by decide) hF (fun hF => ?_) (fun hF => ?_)
  · refine aw_aload_0 C dX3_addPair_11 ?_
    refine aw_getR C dX3_addPair_12 fX3_15 gX3_1 (aw_w1 f0) (aw_wr1 f0) ?_
    refine aw_aload_0 C dX3_addPair_15 ?_
    refine aw_getI C dX3_addPair_16 fX3_21 gX3_3 (aw_w1 f0) ?_
    refine aw_iload_1 C dX3_addPair_19 ?_
    obtain ⟨s1, hF⟩ := bw_side hF
    refine aw_iast C dX3_addPair_20 (aw_wa1 f0) (aw_ix s1) ?_
    refine aw_aload_0 C dX3_addPair_21 ?_
    refine aw_getR C dX3_addPair_22 fX3_18 gX3_2 (aw_w1 f0) (aw_wr2 f0) ?_
    refine aw_aload_0 C dX3_addPair_25 ?_
    refine aw_getI C dX3_addPair_26 fX3_21 gX3_3 (aw_w1 f0) ?_
    refine aw_iload_2 C dX3_addPair_29 ?_
    obtain ⟨s2, hF⟩ := bw_side hF
    refine aw_iast C dX3_addPair_30 (aw_wa2 f0) (aw_ix s2) ?_
    refine aw_aload_0 C dX3_addPair_31 ?_
    refine aw_dup C dX3_addPair_32 rfl ?_
    refine aw_getI C dX3_addPair_33 fX3_21 gX3_3 (aw_w1 f0) ?_
    refine aw_iconst C dX3_addPair_36 li_1 ?_
    refine aw_iadd C dX3_addPair_37 ?_
    refine aw_putI C dX3_addPair_38 fX3_21 gX3_3 (aw_w1 f0) ?_
    refine aw_aload_0 C dX3_addPair_41 ?_
    refine aw_getI C dX3_addPair_42 fX3_21 gX3_3 (aw_w1 f0) ?_
    obtain rfl := Option.some.inj hF
    exact aw_iret C E dX3_addPair_45 rfl rfl (bw_ret rfl)
  · refine aw_bipush C dX3_addPair_8 lb_m4 ?_
    obtain rfl := Option.some.inj hF
    exact aw_iret C E dX3_addPair_10 rfl rfl (bw_ret rfl)
def FX3_toothOf (a0 : Nat) (a1 : Nat) (a2 : Int32) (h : aw_H) : Option (Int32) :=
  (if a2 < 0 then some (-1 : Int32) else (if (h.1 a0 3) ≤ a2 then some (-1 : Int32) else (if aw_inb a2 3 = true then some (h.1 a1 (a2).toNatClampNeg) else none)))
set_option maxRecDepth 100000 in
set_option maxHeartbeats 4000000 in
theorem ctX3_toothOf (a0 : Nat) (a1 : Nat) (a2 : Int32) (h : aw_H) (f0 : aw_isW a0 = true) (f1 : aw_isA a1 = true) (y : Int32) (hF : FX3_toothOf a0 a1 a2 h = some y) : Ct 0 0 0 yX3_toothOf cX3_toothOf 3 (some .int) [.ref a0, .ref a1, .int a2] wL wR h (aw_D (some (.int y)) h) := by
  refine Ct.of (ls0 := [.ref a0, .ref a1, .int a2]) (by decide +kernel) rfl rfl (fun X C E hnm => ?_)
  have C : aw_C X RX3 cX3_toothOf 3 0 0 0 := C
  unfold FX3_toothOf at hF
  refine aw_iload_2 C dX3_toothOf_0 ?_
  refine bw_if_lt (tgt := 18) C dX3_toothOf_1 (by decide) hF (fun hF => ?_) (fun hF => ?_)
  · refine aw_iconst C dX3_toothOf_18 li_m1 ?_
    obtain rfl := Option.some.inj hF
    exact aw_iret C E dX3_toothOf_19 rfl rfl (bw_ret rfl)
  · refine aw_iload_2 C dX3_toothOf_4 ?_
    refine aw_aload_0 C dX3_toothOf_5 ?_
    refine aw_getI C dX3_toothOf_6 fX3_21 gX3_3 (aw_w1 f0) ?_
    refine bw_icmp_ge (tgt := 18) C dX3_toothOf_9 (by decide) hF (fun hF => ?_) (fun hF => ?_)
    · refine aw_iconst C dX3_toothOf_18 li_m1 ?_
      obtain rfl := Option.some.inj hF
      exact aw_iret C E dX3_toothOf_19 rfl rfl (bw_ret rfl)
    · refine aw_aload_1 C dX3_toothOf_12 ?_
      refine aw_iload_2 C dX3_toothOf_13 ?_
      obtain ⟨s1, hF⟩ := bw_side hF
      refine aw_iald C dX3_toothOf_14 (aw_a1 f1) (aw_ix s1) ?_
      refine aw_goto (tgt := 19) C dX3_toothOf_15 (by decide) ?_
      obtain rfl := Option.some.inj hF
      exact aw_iret C E dX3_toothOf_19 rfl rfl (bw_ret rfl)
def FX3_isA (a0 : Nat) (a1 : Int32) (h : aw_H) : Option (Int32) :=
  (if a1 = (h.1 (a0 + 1) 0) then some (1 : Int32) else (if aw_inb (h.1 (a0 + 1) 0) 6 = true then (if a1 = (aw_ro 1 ((h.1 (a0 + 1) 0)).toNatClampNeg) then some (1 : Int32) else (if a1 = 0 then some (1 : Int32) else some (0 : Int32))) else none))
set_option maxRecDepth 100000 in
set_option maxHeartbeats 4000000 in
theorem ctX3_isA (a0 : Nat) (a1 : Int32) (h : aw_H) (f0 : aw_isW a0 = true) (y : Int32) (hF : FX3_isA a0 a1 h = some y) : Ct 0 0 0 yX3_isA cX3_isA 3 (some .boolean) [.ref a0, .int a1] wL wR h (aw_D (some (.int y)) h) := by
  refine Ct.of (ls0 := [.ref a0, .int a1, .retAddr 0]) (by decide +kernel) rfl rfl (fun X C E hnm => ?_)
  have C : aw_C X RX3 cX3_isA 3 0 0 0 := C
  unfold FX3_isA at hF
  refine aw_aload_0 C dX3_isA_0 ?_
  refine aw_getR C dX3_isA_1 fX3_9 gX3_0 (aw_w1 f0) (aw_wr0 f0) ?_
  refine aw_iconst C dX3_isA_4 li_0 ?_
  refine aw_iald C dX3_isA_5 (aw_wa0 f0) (aw_ixk (k := 0) (n := 4) rfl rfl) ?_
  refine aw_istore_2 C dX3_isA_6 rfl rfl ?_
  refine aw_iload_1 C dX3_isA_7 ?_
  refine aw_iload_2 C dX3_isA_8 ?_
  refine bw_icmp_eq (tgt := 25) C dX3_isA_9 (by decide) hF (fun hF => ?_) (fun hF => ?_)
  · refine aw_iconst C dX3_isA_25 li_1 ?_
    refine aw_goto (tgt := 30) C dX3_isA_26 (by decide) ?_
    obtain rfl := Option.some.inj hF
    exact aw_zret C E rfl dX3_isA_30 rfl rfl (bw_ret rfl)
  · refine aw_iload_1 C dX3_isA_12 ?_
    refine aw_getsN (t := 1) C dX3_isA_13 (by decide) fX3_38 ?_
    refine aw_iload_2 C dX3_isA_16 ?_
    obtain ⟨s1, hF⟩ := bw_side hF
    refine aw_tald (t := 1) C dX3_isA_17 (by decide) (aw_ix s1) ?_
    refine bw_icmp_eq (tgt := 25) C dX3_isA_18 (by decide) hF (fun hF => ?_) (fun hF => ?_)
    · refine aw_iconst C dX3_isA_25 li_1 ?_
      refine aw_goto (tgt := 30) C dX3_isA_26 (by decide) ?_
      obtain rfl := Option.some.inj hF
      exact aw_zret C E rfl dX3_isA_30 rfl rfl (bw_ret rfl)
    · refine aw_iload_1 C dX3_isA_21 ?_
      refine bw_if_ne (tgt := 29) C dX3_isA_22 (by decide) hF (fun hF => ?_) (fun hF => ?_)
      · refine aw_iconst C dX3_isA_29 li_0 ?_
        obtain rfl := Option.some.inj hF
        exact aw_zret C E rfl dX3_isA_30 rfl rfl (bw_ret rfl)
      · refine aw_iconst C dX3_isA_25 li_1 ?_
        refine aw_goto (tgt := 30) C dX3_isA_26 (by decide) ?_
        obtain rfl := Option.some.inj hF
        exact aw_zret C E rfl dX3_isA_30 rfl rfl (bw_ret rfl)
def FX5_misfit (a1 : Int32) (a2 : Int32) : Int32 :=
  (if (a1 + a2) ≤ (300 : Int32) then (if ((6 : Int32) * a2) < a1 then (2 : Int32) else (if a2 ≤ ((6 : Int32) * a1) then (0 : Int32) else (2 : Int32))) else (1 : Int32))
set_option maxRecDepth 100000 in
set_option maxHeartbeats 4000000 in
theorem ctX5_misfit (a1 : Int32) (a2 : Int32) (h : aw_H) (y : Int32) (hF : FX5_misfit a1 a2 = y) : Ct 0 0 0 yX5_misfit cX5_misfit 2 (some .int) [.int a1, .int a2] wL wR h (aw_D (some (.int y)) h) := by
  refine Ct.of (ls0 := [.int a1, .int a2]) (by decide +kernel) rfl rfl (fun X C E hnm => ?_)
  have C : aw_C X RX5 cX5_misfit 2 0 0 0 := C
  unfold FX5_misfit at hF
  refine aw_iload_0 C dX5_misfit_0 ?_
  refine aw_iload_1 C dX5_misfit_1 ?_
  refine aw_iadd C dX5_misfit_2 ?_
  refine aw_sipush C dX5_misfit_3 ls_300 ?_
  refine bw_icmp_le (tgt := 11) C dX5_misfit_6 (by decide) hF (fun hF => ?_) (fun hF => ?_)
  · refine aw_iload_0 C dX5_misfit_11 ?_
    refine aw_bipush C dX5_misfit_12 lb_6 ?_
    refine aw_iload_1 C dX5_misfit_14 ?_
    refine aw_imul C dX5_misfit_15 ?_
    refine bw_icmp_gt (tgt := 27) C dX5_misfit_16 (by decide) hF (fun hF => ?_) (fun hF => ?_)
    · refine aw_iconst C dX5_misfit_27 li_2 ?_
      refine aw_goto (tgt := 32) C dX5_misfit_28 (by decide) ?_
      subst hF
      exact aw_iret C E dX5_misfit_32 rfl rfl (bw_ret rfl)
    · refine aw_iload_1 C dX5_misfit_19 ?_
      refine aw_bipush C dX5_misfit_20 lb_6 ?_
      refine aw_iload_0 C dX5_misfit_22 ?_
      refine aw_imul C dX5_misfit_23 ?_
      refine bw_icmp_le (tgt := 31) C dX5_misfit_24 (by decide) hF (fun hF => ?_) (fun hF => ?_)
      · refine aw_iconst C dX5_misfit_31 li_0 ?_
        subst hF
        exact aw_iret C E dX5_misfit_32 rfl rfl (bw_ret rfl)
      · refine aw_iconst C dX5_misfit_27 li_2 ?_
        refine aw_goto (tgt := 32) C dX5_misfit_28 (by decide) ?_
        subst hF
        exact aw_iret C E dX5_misfit_32 rfl rfl (bw_ret rfl)
  · refine aw_iconst C dX5_misfit_9 li_1 ?_
    subst hF
    exact aw_iret C E dX5_misfit_10 rfl rfl (bw_ret rfl)
def BX3_jammed_2 (a0 : Nat) (h : aw_H) (u2 : Int32) : Option (Int32 ⊕ Int32) :=
  (if (h.1 a0 3) ≤ u2 then some (Sum.inr (-1 : Int32)) else (if aw_inb u2 3 = true then (if aw_inb u2 3 = true then (if (FX5_misfit (h.1 (a0 + 2) (u2).toNatClampNeg) (h.1 (a0 + 3) (u2).toNatClampNeg)) = 0 then some (Sum.inl (u2 + (1 : Int32))) else some (Sum.inr u2)) else none) else none))
def FX3_jammed (n : Nat) (a0 : Nat) (h : aw_H) : Option (Int32) :=
  aw_loop (BX3_jammed_2 a0 h) n (0 : Int32)
set_option maxRecDepth 100000 in
set_option maxHeartbeats 4000000 in
theorem ctX3_jammed (n : Nat) (a0 : Nat) (h : aw_H) (f0 : aw_isW a0 = true) (y : Int32) (hF : FX3_jammed n a0 h = some y) : Ct 1 0 0 yX3_jammed cX3_jammed 2 (some .int) [.ref a0] wL wR h (aw_D (some (.int y)) h) := by
  refine Ct.of (ls0 := [.ref a0, .retAddr 0]) (by decide +kernel) rfl rfl (fun X C E hnm => ?_)
  have C : aw_C X RX3 cX3_jammed 2 1 0 0 := C
  unfold FX3_jammed at hF
  refine aw_iconst C dX3_jammed_0 li_0 ?_
  refine aw_istore_1 C dX3_jammed_1 rfl rfl ?_
  refine aw_loop_rule (fun u2 : Int32 => AW X 2 2 [.ref a0, .int u2] [] wL wR h 0 0) (fun q => q = y) (fun u2 y2 hF hK => ?_) n (0 : Int32) _ hF rfl
  unfold BX3_jammed_2 at hF
  refine aw_iload_1 C dX3_jammed_2 ?_
  refine aw_aload_0 C dX3_jammed_3 ?_
  refine aw_getI C dX3_jammed_4 fX3_21 gX3_3 (aw_w1 f0) ?_
  refine bw_icmp_ge (tgt := 36) C dX3_jammed_7 (by decide) hF (fun hF => ?_) (fun hF => ?_)
  · refine aw_iconst C dX3_jammed_36 li_m1 ?_
    obtain rfl := Option.some.inj hF
    have hK : _ = y := hK
    subst hK
    exact aw_iret C E dX3_jammed_37 rfl rfl (bw_ret rfl)
  · refine aw_aload_0 C dX3_jammed_10 ?_
    refine aw_getR C dX3_jammed_11 fX3_15 gX3_1 (aw_w1 f0) (aw_wr1 f0) ?_
    refine aw_iload_1 C dX3_jammed_14 ?_
    obtain ⟨s1, hF⟩ := bw_side hF
    refine aw_iald C dX3_jammed_15 (aw_wa1 f0) (aw_ix s1) ?_
    refine aw_aload_0 C dX3_jammed_16 ?_
    refine aw_getR C dX3_jammed_17 fX3_18 gX3_2 (aw_w1 f0) (aw_wr2 f0) ?_
    refine aw_iload_1 C dX3_jammed_20 ?_
    obtain ⟨s2, hF⟩ := bw_side hF
    refine aw_iald C dX3_jammed_21 (aw_wa2 f0) (aw_ix s2) ?_
    refine bw_N2i C dX3_jammed_22 kyX5_misfit lX3_41 ksX5_misfit rfl rfl (ctX5_misfit (h.1 (a0 + 2) (u2).toNatClampNeg) (h.1 (a0 + 3) (u2).toNatClampNeg) h _ rfl) ?_
    refine bw_if_eq (tgt := 30) C dX3_jammed_25 (by decide) hF (fun hF => ?_) (fun hF => ?_)
    · refine aw_iinc_1 C dX3_jammed_30 li_1 rfl rfl ?_
      refine aw_goto (tgt := 2) C dX3_jammed_33 (by decide) ?_
      cases hF
      exact hK
    · refine aw_iload_1 C dX3_jammed_28 ?_
      obtain rfl := Option.some.inj hF
      have hK : _ = y := hK
      subst hK
      exact aw_iret C E dX3_jammed_29 rfl rfl (bw_ret rfl)
def BX5_greatestDivisor_9 (u9 : (Int64 × Int64 × Int32)) : Option ((Int64 × Int64 × Int32) ⊕ Int64) :=
  (if (1000 : Int32) ≤ u9.2.2 then some (Sum.inr u9.1) else (if (lg_cmp u9.2.1 (0 : Int64)) = 0 then some (Sum.inr u9.1) else (if u9.2.1 = 0 then none else some (Sum.inl (u9.2.1, (u9.1 - (u9.1 / u9.2.1) * u9.2.1), (u9.2.2 + (1 : Int32)))))))
def FX5_greatestDivisor (n : Nat) (a1 : Int64) (a2 : Int64) : Option (Int64) :=
  aw_loop (BX5_greatestDivisor_9) n (a1, a2, (0 : Int32))
set_option maxRecDepth 100000 in
set_option maxHeartbeats 4000000 in
theorem ctX5_greatestDivisor (n : Nat) (a1 : Int64) (a2 : Int64) (h : aw_H) (y : Int64) (hF : FX5_greatestDivisor n a1 a2 = some y) : Ct 0 0 0 yX5_greatestDivisor cX5_greatestDivisor 11 (some .long) [.long a1, .long a2] wL wR h (aw_D (some (.long y)) h) := by
  refine Ct.of (ls0 := [.long a1, .retAddr 0, .long a2, .retAddr 0, .retAddr 0, .retAddr 0, .retAddr 0, .retAddr 0, .retAddr 0, .retAddr 0, .retAddr 0]) (by decide +kernel) rfl rfl (fun X C E hnm => ?_)
  have C : aw_C X RX5 cX5_greatestDivisor 11 0 0 0 := C
  unfold FX5_greatestDivisor at hF
  refine aw_lload_0 C dX5_greatestDivisor_0 ?_
  refine aw_lstore_4 C dX5_greatestDivisor_1 rfl rfl ?_
  refine aw_lload_2 C dX5_greatestDivisor_3 ?_
  refine aw_lstore_6 C dX5_greatestDivisor_4 rfl rfl ?_
  refine aw_iconst C dX5_greatestDivisor_6 li_0 ?_
  refine aw_istore_8 C dX5_greatestDivisor_7 rfl rfl ?_
  refine aw_weak (show aw_le [.retAddr 0, .retAddr 0, .retAddr 0, .retAddr 0, .long a1, .retAddr 0, .long a2, .retAddr 0, .int (0 : Int32), .retAddr 0, .retAddr 0] [.long a1, .retAddr 0, .long a2, .retAddr 0, .long a1, .retAddr 0, .long a2, .retAddr 0, .int (0 : Int32), .retAddr 0, .retAddr 0] from ⟨Or.inl rfl, Or.inr rfl, Or.inl rfl, Or.inr rfl, Or.inr rfl, Or.inr rfl, Or.inr rfl, Or.inr rfl, Or.inr rfl, Or.inr rfl, Or.inr rfl, trivial⟩) ?_
  refine aw_loop_rule (fun u9 : (Int64 × Int64 × Int32) => AW X 11 9 [.retAddr 0, .retAddr 0, .retAddr 0, .retAddr 0, .long u9.1, .retAddr 0, .long u9.2.1, .retAddr 0, .int u9.2.2, .retAddr 0, .retAddr 0] [] wL wR h 0 0) (fun q => q = y) (fun u9 y9 hF hK => ?_) n (a1, a2, (0 : Int32)) _ hF rfl
  unfold BX5_greatestDivisor_9 at hF
  refine aw_iload_8 C dX5_greatestDivisor_9 ?_
  refine aw_sipush C dX5_greatestDivisor_11 ls_1000 ?_
  refine bw_icmp_ge (tgt := 45) C dX5_greatestDivisor_14 (by decide) hF (fun hF => ?_) (fun hF => ?_)
  · refine aw_lload_4 C dX5_greatestDivisor_45 ?_
    obtain rfl := Option.some.inj hF
    have hK : _ = y := hK
    subst hK
    exact aw_lret C E dX5_greatestDivisor_47 rfl rfl (bw_ret rfl)
  · refine aw_lload_6 C dX5_greatestDivisor_17 ?_
    refine aw_lconst C dX5_greatestDivisor_19 ll_0 ?_
    refine aw_lcmp C dX5_greatestDivisor_20 ?_
    refine bw_if_eq (tgt := 45) C dX5_greatestDivisor_21 (by decide) hF (fun hF => ?_) (fun hF => ?_)
    · refine aw_lload_4 C dX5_greatestDivisor_45 ?_
      obtain rfl := Option.some.inj hF
      have hK : _ = y := hK
      subst hK
      exact aw_lret C E dX5_greatestDivisor_47 rfl rfl (bw_ret rfl)
    · refine aw_lload_4 C dX5_greatestDivisor_24 ?_
      refine aw_lload_6 C dX5_greatestDivisor_26 ?_
      obtain ⟨s1, hF⟩ := bw_nz hF
      refine aw_lrem C dX5_greatestDivisor_28 s1 ?_
      refine aw_lstore_9 C dX5_greatestDivisor_29 rfl rfl ?_
      refine aw_lload_6 C dX5_greatestDivisor_31 ?_
      refine aw_lstore_4 C dX5_greatestDivisor_33 rfl rfl ?_
      refine aw_lload_9 C dX5_greatestDivisor_35 ?_
      refine aw_lstore_6 C dX5_greatestDivisor_37 rfl rfl ?_
      refine aw_iinc_8 C dX5_greatestDivisor_39 li_1 rfl rfl ?_
      refine aw_goto (tgt := 9) C dX5_greatestDivisor_42 (by decide) ?_
      cases hF
      exact aw_weak (show aw_le [.retAddr 0, .retAddr 0, .retAddr 0, .retAddr 0, .long u9.2.1, .retAddr 0, .long (u9.1 - (u9.1 / u9.2.1) * u9.2.1), .retAddr 0, .int (u9.2.2 + (1 : Int32)), .retAddr 0, .retAddr 0] [.retAddr 0, .retAddr 0, .retAddr 0, .retAddr 0, .long u9.2.1, .retAddr 0, .long (u9.1 - (u9.1 / u9.2.1) * u9.2.1), .retAddr 0, .int (u9.2.2 + (1 : Int32)), .long (u9.1 - (u9.1 / u9.2.1) * u9.2.1), .retAddr 0] from ⟨Or.inr rfl, Or.inr rfl, Or.inr rfl, Or.inr rfl, Or.inr rfl, Or.inr rfl, Or.inr rfl, Or.inr rfl, Or.inr rfl, Or.inl rfl, Or.inr rfl, trivial⟩) hK
def FX5_cut (a1 : Int64) (a2 : Int64) : Option (Int64) :=
  (if (lg_cmp a2 (0 : Int64)) = 0 then some (0 : Int64) else (if a2 = 0 then none else some (a1 / a2)))
set_option maxRecDepth 100000 in
set_option maxHeartbeats 4000000 in
theorem ctX5_cut (a1 : Int64) (a2 : Int64) (h : aw_H) (y : Int64) (hF : FX5_cut a1 a2 = some y) : Ct 0 0 0 yX5_cut cX5_cut 4 (some .long) [.long a1, .long a2] wL wR h (aw_D (some (.long y)) h) := by
  refine Ct.of (ls0 := [.long a1, .retAddr 0, .long a2, .retAddr 0]) (by decide +kernel) rfl rfl (fun X C E hnm => ?_)
  have C : aw_C X RX5 cX5_cut 4 0 0 0 := C
  unfold FX5_cut at hF
  refine aw_lload_2 C dX5_cut_0 ?_
  refine aw_lconst C dX5_cut_1 ll_0 ?_
  refine aw_lcmp C dX5_cut_2 ?_
  refine bw_if_ne (tgt := 10) C dX5_cut_3 (by decide) hF (fun hF => ?_) (fun hF => ?_)
  · refine aw_lload_0 C dX5_cut_10 ?_
    refine aw_lload_2 C dX5_cut_11 ?_
    obtain ⟨s1, hF⟩ := bw_nz hF
    refine aw_ldiv C dX5_cut_12 s1 ?_
    obtain rfl := Option.some.inj hF
    exact aw_lret C E dX5_cut_13 rfl rfl (bw_ret rfl)
  · refine aw_lconst C dX5_cut_6 ll_0 ?_
    refine aw_goto (tgt := 13) C dX5_cut_7 (by decide) ?_
    obtain rfl := Option.some.inj hF
    exact aw_lret C E dX5_cut_13 rfl rfl (bw_ret rfl)
def FX5_lowest (n : Nat) (a1 : Int64) (a2 : Int64) (a3 : Int32) : Option (Int64) :=
  (if a3 = 0 then ((FX5_greatestDivisor n (FJ9_abs_067f4 a1) a2).bind (fun q5 => ((FX5_cut a1 q5).bind (fun q7 => some q7)))) else ((FX5_greatestDivisor n (FJ9_abs_067f4 a1) a2).bind (fun q1 => ((FX5_cut a2 q1).bind (fun q3 => some q3)))))
set_option maxRecDepth 100000 in
set_option maxHeartbeats 4000000 in
theorem ctX5_lowest (n : Nat) (a1 : Int64) (a2 : Int64) (a3 : Int32) (h : aw_H) (y : Int64) (hF : FX5_lowest n a1 a2 a3 = some y) : Ct 1 0 0 yX5_lowest cX5_lowest 5 (some .long) [.long a1, .long a2, .int a3] wL wR h (aw_D (some (.long y)) h) := by
  refine Ct.of (ls0 := [.long a1, .retAddr 0, .long a2, .retAddr 0, .int a3]) (by decide +kernel) rfl rfl (fun X C E hnm => ?_)
  have C : aw_C X RX5 cX5_lowest 5 1 0 0 := C
  unfold FX5_lowest at hF
  refine aw_iload_4 C dX5_lowest_0 ?_
  refine bw_if_ne (tgt := 9) C dX5_lowest_2 (by decide) hF (fun hF => ?_) (fun hF => ?_)
  · refine aw_lload_2 C dX5_lowest_9 ?_
    refine aw_lload_0 C dX5_lowest_10 ?_
    refine bw_abs C dX5_lowest_11 lX5_205 rfl rfl ?_
    refine aw_lload_2 C dX5_lowest_14 ?_
    obtain ⟨q1, e2, hF⟩ := bw_bind hF
    refine bw_S2l C dX5_lowest_15 kyX5_greatestDivisor lX5_277 ksX5_greatestDivisor rfl rfl (ctX5_greatestDivisor n (FJ9_abs_067f4 a1) a2 h q1 e2) ?_
    obtain ⟨q3, e4, hF⟩ := bw_bind hF
    refine bw_S2l C dX5_lowest_18 kyX5_cut lX5_281 ksX5_cut rfl rfl (ctX5_cut a2 q1 h q3 e4) ?_
    obtain rfl := Option.some.inj hF
    exact aw_lret C E dX5_lowest_21 rfl rfl (bw_ret rfl)
  · refine aw_lload_0 C dX5_lowest_5 ?_
    refine aw_goto (tgt := 10) C dX5_lowest_6 (by decide) ?_
    refine aw_lload_0 C dX5_lowest_10 ?_
    refine bw_abs C dX5_lowest_11 lX5_205 rfl rfl ?_
    refine aw_lload_2 C dX5_lowest_14 ?_
    obtain ⟨q5, e6, hF⟩ := bw_bind hF
    refine bw_S2l C dX5_lowest_15 kyX5_greatestDivisor lX5_277 ksX5_greatestDivisor rfl rfl (ctX5_greatestDivisor n (FJ9_abs_067f4 a1) a2 h q5 e6) ?_
    obtain ⟨q7, e8, hF⟩ := bw_bind hF
    refine bw_S2l C dX5_lowest_18 kyX5_cut lX5_281 ksX5_cut rfl rfl (ctX5_cut a1 q5 h q7 e8) ?_
    obtain rfl := Option.some.inj hF
    exact aw_lret C E dX5_lowest_21 rfl rfl (bw_ret rfl)
def BX3_tune_21 (n : Nat) (a0 : Nat) (h : aw_H) (u21 : (Int64 × Int64 × Int32)) : Option ((Int64 × Int64 × Int32) ⊕ aw_H) :=
  (if (h.1 a0 3) ≤ u21.2.2 then ((FX5_lowest n u21.1 u21.2.1 (0 : Int32)).bind (fun q3 => ((FX5_lowest n u21.1 u21.2.1 (1 : Int32)).bind (fun q5 => some (Sum.inr (aw_sL (aw_sL h a0 4 q3) a0 5 q5)))))) else (if aw_inb u21.2.2 3 = true then (if aw_inb u21.2.2 3 = true then some (Sum.inl ((u21.1 * ((h.1 (a0 + 2) (u21.2.2).toNatClampNeg)).toInt64), (u21.2.1 * ((h.1 (a0 + 3) (u21.2.2).toNatClampNeg)).toInt64), (u21.2.2 + (1 : Int32)))) else none) else none))
def BX3_tune_21' (n : Nat) (a0 : Nat) (h : aw_H) (u21 : (Int64 × Int64 × Int32)) : Option ((Int64 × Int64 × Int32) ⊕ aw_H) :=
  (if (h.1 a0 3) ≤ u21.2.2 then ((FX5_lowest n u21.1 u21.2.1 (0 : Int32)).bind (fun q9 => ((FX5_lowest n u21.1 u21.2.1 (1 : Int32)).bind (fun q11 => some (Sum.inr (aw_sL (aw_sL h a0 4 q9) a0 5 q11)))))) else (if aw_inb u21.2.2 3 = true then (if aw_inb u21.2.2 3 = true then some (Sum.inl ((u21.1 * ((h.1 (a0 + 2) (u21.2.2).toNatClampNeg)).toInt64), (u21.2.1 * ((h.1 (a0 + 3) (u21.2.2).toNatClampNeg)).toInt64), (u21.2.2 + (1 : Int32)))) else none) else none))
def FX3_tune (n : Nat) (a0 : Nat) (a1 : Int32) (h : aw_H) : Option (aw_H) :=
  ((FX3_jammed n a0 h).bind (fun q1 => (if q1 = (-1 : Int32) then aw_loop (BX3_tune_21' n a0 h) n ((a1).toInt64, (1 : Int64), (0 : Int32)) else aw_loop (BX3_tune_21 n a0 h) n ((0 : Int64), (1 : Int64), (0 : Int32)))))
set_option maxRecDepth 100000 in
set_option maxHeartbeats 4000000 in
theorem ctX3_tune (n : Nat) (a0 : Nat) (a1 : Int32) (h : aw_H) (f0 : aw_isW a0 = true) (y : aw_H) (hF : FX3_tune n a0 a1 h = some y) : Ct 2 0 0 yX3_tune cX3_tune 7 none [.ref a0, .int a1] wL wR h (aw_D (none) y) := by
  refine Ct.of (ls0 := [.ref a0, .int a1, .retAddr 0, .retAddr 0, .retAddr 0, .retAddr 0, .retAddr 0]) (by decide +kernel) rfl rfl (fun X C E hnm => ?_)
  have C : aw_C X RX3 cX3_tune 7 2 0 0 := C
  unfold FX3_tune at hF
  refine aw_aload_0 C dX3_tune_0 ?_
  obtain ⟨q1, e2, hF⟩ := bw_bind hF
  refine bw_V0i C dX3_tune_1 kyX3_jammed lX3_45 kiX3_jammed kvX3_jammed (aw_rv C (aw_w1 f0) rfl) rfl rfl (ctX3_jammed n a0 h f0 q1 e2) ?_
  refine aw_iconst C dX3_tune_4 li_m1 ?_
  refine bw_icmp_ne (tgt := 13) C dX3_tune_5 (by decide) hF (fun hF => ?_) (fun hF => ?_)
  · refine aw_lconst C dX3_tune_13 ll_0 ?_
    refine aw_lstore_2 C dX3_tune_14 rfl rfl ?_
    refine aw_lconst C dX3_tune_15 ll_1 ?_
    refine aw_lstore_4 C dX3_tune_16 rfl rfl ?_
    refine aw_iconst C dX3_tune_18 li_0 ?_
    refine aw_istore_6 C dX3_tune_19 rfl rfl ?_
    refine aw_weak (show aw_le [.ref a0, .retAddr 0, .long (0 : Int64), .retAddr 0, .long (1 : Int64), .retAddr 0, .int (0 : Int32)] [.ref a0, .int a1, .long (0 : Int64), .retAddr 0, .long (1 : Int64), .retAddr 0, .int (0 : Int32)] from ⟨Or.inr rfl, Or.inl rfl, Or.inr rfl, Or.inr rfl, Or.inr rfl, Or.inr rfl, Or.inr rfl, trivial⟩) ?_
    refine aw_loop_rule (fun u21 : (Int64 × Int64 × Int32) => AW X 7 21 [.ref a0, .retAddr 0, .long u21.1, .retAddr 0, .long u21.2.1, .retAddr 0, .int u21.2.2] [] wL wR h 0 0) (fun q => q = y) (fun u21 y21 hF hK => ?_) n ((0 : Int64), (1 : Int64), (0 : Int32)) _ hF rfl
    unfold BX3_tune_21 at hF
    refine aw_iload_6 C dX3_tune_21 ?_
    refine aw_aload_0 C dX3_tune_23 ?_
    refine aw_getI C dX3_tune_24 fX3_21 gX3_3 (aw_w1 f0) ?_
    refine bw_icmp_ge (tgt := 60) C dX3_tune_27 (by decide) hF (fun hF => ?_) (fun hF => ?_)
    · refine aw_aload_0 C dX3_tune_60 ?_
      refine aw_lload_2 C dX3_tune_61 ?_
      refine aw_lload_4 C dX3_tune_62 ?_
      refine aw_iconst C dX3_tune_64 li_0 ?_
      obtain ⟨q3, e4, hF⟩ := bw_bind hF
      refine bw_N3l C dX3_tune_65 kyX5_lowest lX3_49 ksX5_lowest rfl rfl (ctX5_lowest n u21.1 u21.2.1 (0 : Int32) h q3 e4) ?_
      refine aw_putL C dX3_tune_68 fX3_25 gX3_4 (aw_w1 f0) ?_
      refine aw_aload_0 C dX3_tune_71 ?_
      refine aw_lload_2 C dX3_tune_72 ?_
      refine aw_lload_4 C dX3_tune_73 ?_
      refine aw_iconst C dX3_tune_75 li_1 ?_
      obtain ⟨q5, e6, hF⟩ := bw_bind hF
      refine bw_N3l C dX3_tune_76 kyX5_lowest lX3_49 ksX5_lowest rfl rfl (ctX5_lowest n u21.1 u21.2.1 (1 : Int32) (aw_sL h a0 4 q3) q5 e6) ?_
      refine aw_putL C dX3_tune_79 fX3_29 gX3_5 (aw_w1 f0) ?_
      obtain rfl := Option.some.inj hF
      have hK : _ = y := hK
      subst hK
      exact aw_vret C E dX3_tune_82 rfl rfl (bw_ret rfl)
    · refine aw_lload_2 C dX3_tune_30 ?_
      refine aw_aload_0 C dX3_tune_31 ?_
      refine aw_getR C dX3_tune_32 fX3_15 gX3_1 (aw_w1 f0) (aw_wr1 f0) ?_
      refine aw_iload_6 C dX3_tune_35 ?_
      obtain ⟨s7, hF⟩ := bw_side hF
      refine aw_iald C dX3_tune_37 (aw_wa1 f0) (aw_ix s7) ?_
      refine aw_i2l C dX3_tune_38 ?_
      refine aw_lmul C dX3_tune_39 ?_
      refine aw_lstore_2 C dX3_tune_40 rfl rfl ?_
      refine aw_lload_4 C dX3_tune_41 ?_
      refine aw_aload_0 C dX3_tune_43 ?_
      refine aw_getR C dX3_tune_44 fX3_18 gX3_2 (aw_w1 f0) (aw_wr2 f0) ?_
      refine aw_iload_6 C dX3_tune_47 ?_
      obtain ⟨s8, hF⟩ := bw_side hF
      refine aw_iald C dX3_tune_49 (aw_wa2 f0) (aw_ix s8) ?_
      refine aw_i2l C dX3_tune_50 ?_
      refine aw_lmul C dX3_tune_51 ?_
      refine aw_lstore_4 C dX3_tune_52 rfl rfl ?_
      refine aw_iinc_6 C dX3_tune_54 li_1 rfl rfl ?_
      refine aw_goto (tgt := 21) C dX3_tune_57 (by decide) ?_
      cases hF
      exact hK
  · refine aw_iload_1 C dX3_tune_8 ?_
    refine aw_i2l C dX3_tune_9 ?_
    refine aw_goto (tgt := 14) C dX3_tune_10 (by decide) ?_
    refine aw_lstore_2 C dX3_tune_14 rfl rfl ?_
    refine aw_lconst C dX3_tune_15 ll_1 ?_
    refine aw_lstore_4 C dX3_tune_16 rfl rfl ?_
    refine aw_iconst C dX3_tune_18 li_0 ?_
    refine aw_istore_6 C dX3_tune_19 rfl rfl ?_
    refine aw_weak (show aw_le [.ref a0, .retAddr 0, .long ((a1).toInt64), .retAddr 0, .long (1 : Int64), .retAddr 0, .int (0 : Int32)] [.ref a0, .int a1, .long ((a1).toInt64), .retAddr 0, .long (1 : Int64), .retAddr 0, .int (0 : Int32)] from ⟨Or.inr rfl, Or.inl rfl, Or.inr rfl, Or.inr rfl, Or.inr rfl, Or.inr rfl, Or.inr rfl, trivial⟩) ?_
    refine aw_loop_rule (fun u21 : (Int64 × Int64 × Int32) => AW X 7 21 [.ref a0, .retAddr 0, .long u21.1, .retAddr 0, .long u21.2.1, .retAddr 0, .int u21.2.2] [] wL wR h 0 0) (fun q => q = y) (fun u21 y21 hF hK => ?_) n ((a1).toInt64, (1 : Int64), (0 : Int32)) _ hF rfl
    unfold BX3_tune_21' at hF
    refine aw_iload_6 C dX3_tune_21 ?_
    refine aw_aload_0 C dX3_tune_23 ?_
    refine aw_getI C dX3_tune_24 fX3_21 gX3_3 (aw_w1 f0) ?_
    refine bw_icmp_ge (tgt := 60) C dX3_tune_27 (by decide) hF (fun hF => ?_) (fun hF => ?_)
    · refine aw_aload_0 C dX3_tune_60 ?_
      refine aw_lload_2 C dX3_tune_61 ?_
      refine aw_lload_4 C dX3_tune_62 ?_
      refine aw_iconst C dX3_tune_64 li_0 ?_
      obtain ⟨q9, e10, hF⟩ := bw_bind hF
      refine bw_N3l C dX3_tune_65 kyX5_lowest lX3_49 ksX5_lowest rfl rfl (ctX5_lowest n u21.1 u21.2.1 (0 : Int32) h q9 e10) ?_
      refine aw_putL C dX3_tune_68 fX3_25 gX3_4 (aw_w1 f0) ?_
      refine aw_aload_0 C dX3_tune_71 ?_
      refine aw_lload_2 C dX3_tune_72 ?_
      refine aw_lload_4 C dX3_tune_73 ?_
      refine aw_iconst C dX3_tune_75 li_1 ?_
      obtain ⟨q11, e12, hF⟩ := bw_bind hF
      refine bw_N3l C dX3_tune_76 kyX5_lowest lX3_49 ksX5_lowest rfl rfl (ctX5_lowest n u21.1 u21.2.1 (1 : Int32) (aw_sL h a0 4 q9) q11 e12) ?_
      refine aw_putL C dX3_tune_79 fX3_29 gX3_5 (aw_w1 f0) ?_
      obtain rfl := Option.some.inj hF
      have hK : _ = y := hK
      subst hK
      exact aw_vret C E dX3_tune_82 rfl rfl (bw_ret rfl)
    · refine aw_lload_2 C dX3_tune_30 ?_
      refine aw_aload_0 C dX3_tune_31 ?_
      refine aw_getR C dX3_tune_32 fX3_15 gX3_1 (aw_w1 f0) (aw_wr1 f0) ?_
      refine aw_iload_6 C dX3_tune_35 ?_
      obtain ⟨s13, hF⟩ := bw_side hF
      refine aw_iald C dX3_tune_37 (aw_wa1 f0) (aw_ix s13) ?_
      refine aw_i2l C dX3_tune_38 ?_
      refine aw_lmul C dX3_tune_39 ?_
      refine aw_lstore_2 C dX3_tune_40 rfl rfl ?_
      refine aw_lload_4 C dX3_tune_41 ?_
      refine aw_aload_0 C dX3_tune_43 ?_
      refine aw_getR C dX3_tune_44 fX3_18 gX3_2 (aw_w1 f0) (aw_wr2 f0) ?_
      refine aw_iload_6 C dX3_tune_47 ?_
      obtain ⟨s14, hF⟩ := bw_side hF
      refine aw_iald C dX3_tune_49 (aw_wa2 f0) (aw_ix s14) ?_
      refine aw_i2l C dX3_tune_50 ?_
      refine aw_lmul C dX3_tune_51 ?_
      refine aw_lstore_4 C dX3_tune_52 rfl rfl ?_
      refine aw_iinc_6 C dX3_tune_54 li_1 rfl rfl ?_
      refine aw_goto (tgt := 21) C dX3_tune_57 (by decide) ?_
      cases hF
      exact hK

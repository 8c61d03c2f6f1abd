def FX6_areAlike (n : Nat) (a1 : Int32) (a2 : Int32) (h : aw_H) : Option (Int32) :=
  ((FX6_speed n a1 (0 : Int32) h).bind (fun q1 => ((FX6_speed n a2 (0 : Int32) h).bind (fun q3 => (if (lg_cmp q1 q3) = 0 then ((FX6_speed n a1 (1 : Int32) h).bind (fun q5 => ((FX6_speed n a2 (1 : Int32) h).bind (fun q7 => (if (lg_cmp q5 q7) = 0 then some (1 : Int32) else some (0 : Int32)))))) else some (0 : Int32))))))
set_option maxRecDepth 100000 in
set_option maxHeartbeats 4000000 in
theorem ctX6_areAlike (n : Nat) (a1 : Int32) (a2 : Int32) (h : aw_H) (y : Int32) (hF : FX6_areAlike n a1 a2 h = some y) : Ct 4 0 0 yX6_areAlike cX6_areAlike 3 (some .boolean) [.ref 71, .int a1, .int a2] wL wR h (aw_D (some (.int y)) h) := by
  refine Ct.of (ls0 := [.ref 71, .int a1, .int a2]) (by decide +kernel) rfl rfl (fun X C E hnm => ?_)
  have C : aw_C X RX6 cX6_areAlike 3 4 0 0 := C
  unfold FX6_areAlike at hF
  refine aw_aload_0 C dX6_areAlike_0 ?_
  refine aw_iload_1 C dX6_areAlike_1 ?_
  refine aw_iconst C dX6_areAlike_2 li_0 ?_
  obtain ⟨q1, e2, hF⟩ := bw_bind hF
  refine bw_V2l C dX6_areAlike_3 kyX6_speed lX6_210 kiX6_speed kvX6_speed (aw_rv C rfl rfl) rfl rfl (ctX6_speed n a1 (0 : Int32) h q1 e2) ?_
  refine aw_aload_0 C dX6_areAlike_6 ?_
  refine aw_iload_2 C dX6_areAlike_7 ?_
  refine aw_iconst C dX6_areAlike_8 li_0 ?_
  obtain ⟨q3, e4, hF⟩ := bw_bind hF
  refine bw_V2l C dX6_areAlike_9 kyX6_speed lX6_210 kiX6_speed kvX6_speed (aw_rv C rfl rfl) rfl rfl (ctX6_speed n a2 (0 : Int32) h q3 e4) ?_
  refine aw_lcmp C dX6_areAlike_12 ?_
  refine bw_if_ne (tgt := 36) C dX6_areAlike_13 (by decide) hF (fun hF => ?_) (fun hF => ?_)
  · refine aw_iconst C dX6_areAlike_36 li_0 ?_
    obtain rfl := Option.some.inj hF
    exact aw_zret C E rfl dX6_areAlike_37 rfl rfl (bw_ret rfl)
  · refine aw_aload_0 C dX6_areAlike_16 ?_
    refine aw_iload_1 C dX6_areAlike_17 ?_
    refine aw_iconst C dX6_areAlike_18 li_1 ?_
    obtain ⟨q5, e6, hF⟩ := bw_bind hF
    refine bw_V2l C dX6_areAlike_19 kyX6_speed lX6_210 kiX6_speed kvX6_speed (aw_rv C rfl rfl) rfl rfl (ctX6_speed n a1 (1 : Int32) h q5 e6) ?_
    refine aw_aload_0 C dX6_areAlike_22 ?_
    refine aw_iload_2 C dX6_areAlike_23 ?_
    refine aw_iconst C dX6_areAlike_24 li_1 ?_
    obtain ⟨q7, e8, hF⟩ := bw_bind hF
    refine bw_V2l C dX6_areAlike_25 kyX6_speed lX6_210 kiX6_speed kvX6_speed (aw_rv C rfl rfl) rfl rfl (ctX6_speed n a2 (1 : Int32) h q7 e8) ?_
    refine aw_lcmp C dX6_areAlike_28 ?_
    refine bw_if_ne (tgt := 36) C dX6_areAlike_29 (by decide) hF (fun hF => ?_) (fun hF => ?_)
    · refine aw_iconst C dX6_areAlike_36 li_0 ?_
      obtain rfl := Option.some.inj hF
      exact aw_zret C E rfl dX6_areAlike_37 rfl rfl (bw_ret rfl)
    · refine aw_iconst C dX6_areAlike_32 li_1 ?_
      refine aw_goto (tgt := 37) C dX6_areAlike_33 (by decide) ?_
      obtain rfl := Option.some.inj hF
      exact aw_zret C E rfl dX6_areAlike_37 rfl rfl (bw_ret rfl)
def BX6_alike_41 (n : Nat) (a1 : Int32) (h : aw_H) (u23 : (Int32 × Int32 × Int32)) (u41 : (Int32 × Int32)) : Option ((Int32 × Int32) ⊕ ((Int32 × Int32 × Int32) ⊕ Int32)) :=
  (if u23.2.2 ≤ u41.2 then (if u41.1 = 0 then (if a1 = (-1 : Int32) then some (Sum.inr (Sum.inl ((u23.1 ||| (0 : Int32)), (u23.2.1 + (0 : Int32)), (u23.2.2 + (1 : Int32))))) else ((FX6_areAlike n a1 u23.2.2 h).bind (fun q1 => (if q1 = 0 then some (Sum.inr (Sum.inl ((u23.1 ||| (0 : Int32)), (u23.2.1 + (0 : Int32)), (u23.2.2 + (1 : Int32))))) else some (Sum.inr (Sum.inl ((u23.1 ||| ((1 : Int32) <<< (u23.2.2 &&& 31))), (u23.2.1 + (0 : Int32)), (u23.2.2 + (1 : Int32))))))))) else (if a1 = (-1 : Int32) then some (Sum.inr (Sum.inl ((u23.1 ||| (0 : Int32)), (u23.2.1 + (1 : Int32)), (u23.2.2 + (1 : Int32))))) else ((FX6_areAlike n a1 u23.2.2 h).bind (fun q3 => (if q3 = 0 then some (Sum.inr (Sum.inl ((u23.1 ||| (0 : Int32)), (u23.2.1 + (1 : Int32)), (u23.2.2 + (1 : Int32))))) else some (Sum.inr (Sum.inl ((u23.1 ||| ((1 : Int32) <<< (u23.2.2 &&& 31))), (u23.2.1 + (1 : Int32)), (u23.2.2 + (1 : Int32)))))))))) else (if u41.1 = 0 then some (Sum.inl ((0 : Int32), (u41.2 + (1 : Int32)))) else ((FX6_areAlike n u23.2.2 u41.2 h).bind (fun q5 => (if q5 = 0 then some (Sum.inl ((1 : Int32), (u41.2 + (1 : Int32)))) else some (Sum.inl ((0 : Int32), (u41.2 + (1 : Int32)))))))))
def BX6_alike_23 (n : Nat) (a1 : Int32) (h : aw_H) (u23 : (Int32 × Int32 × Int32)) : Option ((Int32 × Int32 × Int32) ⊕ Int32) :=
  (if (h.1 72 66) ≤ u23.2.2 then (if a1 = (-1 : Int32) then some (Sum.inr u23.2.1) else some (Sum.inr u23.1)) else aw_loop (BX6_alike_41 n a1 h u23) n ((1 : Int32), (0 : Int32)))
def BX6_alike_41' (n : Nat) (a1 : Int32) (h : aw_H) (u23 : (Int32 × Int32 × Int32)) (u41 : (Int32 × Int32)) : Option ((Int32 × Int32) ⊕ ((Int32 × Int32 × Int32) ⊕ Int32)) :=
  (if u23.2.2 ≤ u41.2 then (if u41.1 = 0 then (if a1 = (-1 : Int32) then some (Sum.inr (Sum.inl ((u23.1 ||| (0 : Int32)), (u23.2.1 + (0 : Int32)), (u23.2.2 + (1 : Int32))))) else ((FX6_areAlike n a1 u23.2.2 h).bind (fun q7 => (if q7 = 0 then some (Sum.inr (Sum.inl ((u23.1 ||| (0 : Int32)), (u23.2.1 + (0 : Int32)), (u23.2.2 + (1 : Int32))))) else some (Sum.inr (Sum.inl ((u23.1 ||| ((1 : Int32) <<< (u23.2.2 &&& 31))), (u23.2.1 + (0 : Int32)), (u23.2.2 + (1 : Int32))))))))) else (if a1 = (-1 : Int32) then some (Sum.inr (Sum.inl ((u23.1 ||| (0 : Int32)), (u23.2.1 + (1 : Int32)), (u23.2.2 + (1 : Int32))))) else ((FX6_areAlike n a1 u23.2.2 h).bind (fun q9 => (if q9 = 0 then some (Sum.inr (Sum.inl ((u23.1 ||| (0 : Int32)), (u23.2.1 + (1 : Int32)), (u23.2.2 + (1 : Int32))))) else some (Sum.inr (Sum.inl ((u23.1 ||| ((1 : Int32) <<< (u23.2.2 &&& 31))), (u23.2.1 + (1 : Int32)), (u23.2.2 + (1 : Int32)))))))))) else (if u41.1 = 0 then some (Sum.inl ((0 : Int32), (u41.2 + (1 : Int32)))) else ((FX6_areAlike n u23.2.2 u41.2 h).bind (fun q11 => (if q11 = 0 then some (Sum.inl ((1 : Int32), (u41.2 + (1 : Int32)))) else some (Sum.inl ((0 : Int32), (u41.2 + (1 : Int32)))))))))
def BX6_alike_23' (n : Nat) (a1 : Int32) (h : aw_H) (u23 : (Int32 × Int32 × Int32)) : Option ((Int32 × Int32 × Int32) ⊕ Int32) :=
  (if (h.1 72 66) ≤ u23.2.2 then (if a1 = (-1 : Int32) then some (Sum.inr u23.2.1) else some (Sum.inr u23.1)) else aw_loop (BX6_alike_41' n a1 h u23) n ((1 : Int32), (0 : Int32)))
def FX6_alike (n : Nat) (a1 : Int32) (h : aw_H) : Option (Int32) :=
  (if a1 = (-1 : Int32) then aw_loop (BX6_alike_23 n a1 h) n ((0 : Int32), (0 : Int32), (0 : Int32)) else (if (FX6_isPart a1 h) = 0 then some (-2 : Int32) else aw_loop (BX6_alike_23' n a1 h) n ((0 : Int32), (0 : Int32), (0 : Int32))))
set_option maxRecDepth 100000 in
set_option maxHeartbeats 4000000 in
theorem ctX6_alike (n : Nat) (a1 : Int32) (h : aw_H) (y : Int32) (hF : FX6_alike n a1 h = some y) : Ct 5 0 0 yX6_alike cX6_alike 7 (some .int) [.ref 71, .int a1] wL wR h (aw_D (some (.int y)) h) := by
  refine Ct.of (ls0 := [.ref 71, .int a1, .retAddr 0, .retAddr 0, .retAddr 0, .retAddr 0, .retAddr 0]) (by decide +kernel) rfl rfl (fun X C E hnm => ?_)
  have C : aw_C X RX6 cX6_alike 7 5 0 0 := C
  unfold FX6_alike at hF
  refine aw_iload_1 C dX6_alike_0 ?_
  refine aw_iconst C dX6_alike_1 li_m1 ?_
  refine bw_icmp_eq (tgt := 16) C dX6_alike_2 (by decide) hF (fun hF => ?_) (fun hF => ?_)
  · refine aw_iconst C dX6_alike_16 li_0 ?_
    refine aw_istore_2 C dX6_alike_17 rfl rfl ?_
    refine aw_iconst C dX6_alike_18 li_0 ?_
    refine aw_istore_3 C dX6_alike_19 rfl rfl ?_
    refine aw_iconst C dX6_alike_20 li_0 ?_
    refine aw_istore_4 C dX6_alike_21 rfl rfl ?_
    refine aw_loop_rule (fun u23 : (Int32 × Int32 × Int32) => AW X 7 23 [.ref 71, .int a1, .int u23.1, .int u23.2.1, .int u23.2.2, .retAddr 0, .retAddr 0] [] wL wR h 0 0) (fun q => q = y) (fun u23 y23 hF hK => ?_) n ((0 : Int32), (0 : Int32), (0 : Int32)) _ hF rfl
    unfold BX6_alike_23 at hF
    refine aw_iload_4 C dX6_alike_23 ?_
    refine aw_aload_0 C dX6_alike_25 ?_
    refine aw_getR C dX6_alike_26 fX6_11 gX6_0 rfl rfl ?_
    refine aw_bipush C dX6_alike_29 lb_66 ?_
    refine aw_iald C dX6_alike_31 rfl (aw_ixk (k := 66) (n := 69) rfl rfl) ?_
    refine bw_icmp_ge (tgt := 122) C dX6_alike_32 (by decide) hF (fun hF => ?_) (fun hF => ?_)
    · refine aw_iload_1 C dX6_alike_122 ?_
      refine aw_iconst C dX6_alike_123 li_m1 ?_
      refine bw_icmp_ne (tgt := 131) C dX6_alike_124 (by decide) hF (fun hF => ?_) (fun hF => ?_)
      · refine aw_iload_2 C dX6_alike_131 ?_
        obtain rfl := Option.some.inj hF
        have hK : _ = y := hK
        subst hK
        exact aw_iret C E dX6_alike_132 rfl rfl (bw_ret rfl)
      · refine aw_iload_3 C dX6_alike_127 ?_
        refine aw_goto (tgt := 132) C dX6_alike_128 (by decide) ?_
        obtain rfl := Option.some.inj hF
        have hK : _ = y := hK
        subst hK
        exact aw_iret C E dX6_alike_132 rfl rfl (bw_ret rfl)
    · refine aw_iconst C dX6_alike_35 li_1 ?_
      refine aw_istore_5 C dX6_alike_36 rfl rfl ?_
      refine aw_iconst C dX6_alike_38 li_0 ?_
      refine aw_istore_6 C dX6_alike_39 rfl rfl ?_
      refine aw_loop_rule (fun u41 : (Int32 × Int32) => AW X 7 41 [.ref 71, .int a1, .int u23.1, .int u23.2.1, .int u23.2.2, .int u41.1, .int u41.2] [] wL wR h 0 0) _ (fun u41 y41 hF hK => ?_) n ((1 : Int32), (0 : Int32)) _ hF hK
      unfold BX6_alike_41 at hF
      refine aw_iload_6 C dX6_alike_41 ?_
      refine aw_iload_4 C dX6_alike_43 ?_
      refine bw_icmp_ge (tgt := 77) C dX6_alike_45 (by decide) hF (fun hF => ?_) (fun hF => ?_)
      · refine aw_iload_3 C dX6_alike_77 ?_
        refine aw_iload_5 C dX6_alike_78 ?_
        refine bw_if_eq (tgt := 87) C dX6_alike_80 (by decide) hF (fun hF => ?_) (fun hF => ?_)
        · refine aw_iconst C dX6_alike_87 li_0 ?_
          refine aw_iadd C dX6_alike_88 ?_
          refine aw_istore_3 C dX6_alike_89 rfl rfl ?_
          refine aw_iload_2 C dX6_alike_90 ?_
          refine aw_iload_1 C dX6_alike_91 ?_
          refine aw_iconst C dX6_alike_92 li_m1 ?_
          refine bw_icmp_eq (tgt := 113) C dX6_alike_93 (by decide) hF (fun hF => ?_) (fun hF => ?_)
          · refine aw_iconst C dX6_alike_113 li_0 ?_
            refine aw_ior C dX6_alike_114 ?_
            refine aw_istore_2 C dX6_alike_115 rfl rfl ?_
            refine aw_iinc_4 C dX6_alike_116 li_1 rfl rfl ?_
            refine aw_goto (tgt := 23) C dX6_alike_119 (by decide) ?_
            cases hF
            exact aw_weak (show aw_le [.ref 71, .int a1, .int (u23.1 ||| (0 : Int32)), .int (u23.2.1 + (0 : Int32)), .int (u23.2.2 + (1 : Int32)), .retAddr 0, .retAddr 0] [.ref 71, .int a1, .int (u23.1 ||| (0 : Int32)), .int (u23.2.1 + (0 : Int32)), .int (u23.2.2 + (1 : Int32)), .int u41.1, .int u41.2] from ⟨Or.inr rfl, Or.inr rfl, Or.inr rfl, Or.inr rfl, Or.inr rfl, Or.inl rfl, Or.inl rfl, trivial⟩) hK
          · refine aw_aload_0 C dX6_alike_96 ?_
            refine aw_iload_1 C dX6_alike_97 ?_
            refine aw_iload_4 C dX6_alike_98 ?_
            obtain ⟨q1, e2, hF⟩ := bw_bind hF
            refine bw_V2i C dX6_alike_100 kyX6_areAlike lX6_213 kiX6_areAlike kvX6_areAlike (aw_rv C rfl rfl) rfl rfl (ctX6_areAlike n a1 u23.2.2 h q1 e2) ?_
            refine bw_if_eq (tgt := 113) C dX6_alike_103 (by decide) hF (fun hF => ?_) (fun hF => ?_)
            · refine aw_iconst C dX6_alike_113 li_0 ?_
              refine aw_ior C dX6_alike_114 ?_
              refine aw_istore_2 C dX6_alike_115 rfl rfl ?_
              refine aw_iinc_4 C dX6_alike_116 li_1 rfl rfl ?_
              refine aw_goto (tgt := 23) C dX6_alike_119 (by decide) ?_
              cases hF
              exact aw_weak (show aw_le [.ref 71, .int a1, .int (u23.1 ||| (0 : Int32)), .int (u23.2.1 + (0 : Int32)), .int (u23.2.2 + (1 : Int32)), .retAddr 0, .retAddr 0] [.ref 71, .int a1, .int (u23.1 ||| (0 : Int32)), .int (u23.2.1 + (0 : Int32)), .int (u23.2.2 + (1 : Int32)), .int u41.1, .int u41.2] from ⟨Or.inr rfl, Or.inr rfl, Or.inr rfl, Or.inr rfl, Or.inr rfl, Or.inl rfl, Or.inl rfl, trivial⟩) hK
            · refine aw_iconst C dX6_alike_106 li_1 ?_
              refine aw_iload_4 C dX6_alike_107 ?_
              refine aw_ishl C dX6_alike_109 ?_
              refine aw_goto (tgt := 114) C dX6_alike_110 (by decide) ?_
              refine aw_ior C dX6_alike_114 ?_
              refine aw_istore_2 C dX6_alike_115 rfl rfl ?_
              refine aw_iinc_4 C dX6_alike_116 li_1 rfl rfl ?_
              refine aw_goto (tgt := 23) C dX6_alike_119 (by decide) ?_
              cases hF
              exact aw_weak (show aw_le [.ref 71, .int a1, .int (u23.1 ||| ((1 : Int32) <<< (u23.2.2 &&& 31))), .int (u23.2.1 + (0 : Int32)), .int (u23.2.2 + (1 : Int32)), .retAddr 0, .retAddr 0] [.ref 71, .int a1, .int (u23.1 ||| ((1 : Int32) <<< (u23.2.2 &&& 31))), .int (u23.2.1 + (0 : Int32)), .int (u23.2.2 + (1 : Int32)), .int u41.1, .int u41.2] from ⟨Or.inr rfl, Or.inr rfl, Or.inr rfl, Or.inr rfl, Or.inr rfl, Or.inl rfl, Or.inl rfl, trivial⟩) hK
        · refine aw_iconst C dX6_alike_83 li_1 ?_
          refine aw_goto (tgt := 88) C dX6_alike_84 (by decide) ?_
          refine aw_iadd C dX6_alike_88 ?_
          refine aw_istore_3 C dX6_alike_89 rfl rfl ?_
          refine aw_iload_2 C dX6_alike_90 ?_
          refine aw_iload_1 C dX6_alike_91 ?_
          refine aw_iconst C dX6_alike_92 li_m1 ?_
          refine bw_icmp_eq (tgt := 113) C dX6_alike_93 (by decide) hF (fun hF => ?_) (fun hF => ?_)
          · refine aw_iconst C dX6_alike_113 li_0 ?_
            refine aw_ior C dX6_alike_114 ?_
            refine aw_istore_2 C dX6_alike_115 rfl rfl ?_
            refine aw_iinc_4 C dX6_alike_116 li_1 rfl rfl ?_
            refine aw_goto (tgt := 23) C dX6_alike_119 (by decide) ?_
            cases hF
            exact aw_weak (show aw_le [.ref 71, .int a1, .int (u23.1 ||| (0 : Int32)), .int (u23.2.1 + (1 : Int32)), .int (u23.2.2 + (1 : Int32)), .retAddr 0, .retAddr 0] [.ref 71, .int a1, .int (u23.1 ||| (0 : Int32)), .int (u23.2.1 + (1 : Int32)), .int (u23.2.2 + (1 : Int32)), .int u41.1, .int u41.2] from ⟨Or.inr rfl, Or.inr rfl, Or.inr rfl, Or.inr rfl, Or.inr rfl, Or.inl rfl, Or.inl rfl, trivial⟩) hK
          · refine aw_aload_0 C dX6_alike_96 ?_
            refine aw_iload_1 C dX6_alike_97 ?_
            refine aw_iload_4 C dX6_alike_98 ?_
            obtain ⟨q3, e4, hF⟩ := bw_bind hF
            refine bw_V2i C dX6_alike_100 kyX6_areAlike lX6_213 kiX6_areAlike kvX6_areAlike (aw_rv C rfl rfl) rfl rfl (ctX6_areAlike n a1 u23.2.2 h q3 e4) ?_
            refine bw_if_eq (tgt := 113) C dX6_alike_103 (by decide) hF (fun hF => ?_) (fun hF => ?_)
            · refine aw_iconst C dX6_alike_113 li_0 ?_
              refine aw_ior C dX6_alike_114 ?_
              refine aw_istore_2 C dX6_alike_115 rfl rfl ?_
              refine aw_iinc_4 C dX6_alike_116 li_1 rfl rfl ?_
              refine aw_goto (tgt := 23) C dX6_alike_119 (by decide) ?_
              cases hF
              exact aw_weak (show aw_le [.ref 71, .int a1, .int (u23.1 ||| (0 : Int32)), .int (u23.2.1 + (1 : Int32)), .int (u23.2.2 + (1 : Int32)), .retAddr 0, .retAddr 0] [.ref 71, .int a1, .int (u23.1 ||| (0 : Int32)), .int (u23.2.1 + (1 : Int32)), .int (u23.2.2 + (1 : Int32)), .int u41.1, .int u41.2] from ⟨Or.inr rfl, Or.inr rfl, Or.inr rfl, Or.inr rfl, Or.inr rfl, Or.inl rfl, Or.inl rfl, trivial⟩) hK
            · refine aw_iconst C dX6_alike_106 li_1 ?_
              refine aw_iload_4 C dX6_alike_107 ?_
              refine aw_ishl C dX6_alike_109 ?_
              refine aw_goto (tgt := 114) C dX6_alike_110 (by decide) ?_
              refine aw_ior C dX6_alike_114 ?_
              refine aw_istore_2 C dX6_alike_115 rfl rfl ?_
              refine aw_iinc_4 C dX6_alike_116 li_1 rfl rfl ?_
              refine aw_goto (tgt := 23) C dX6_alike_119 (by decide) ?_
              cases hF
              exact aw_weak (show aw_le [.ref 71, .int a1, .int (u23.1 ||| ((1 : Int32) <<< (u23.2.2 &&& 31))), .int (u23.2.1 + (1 : Int32)), .int (u23.2.2 + (1 : Int32)), .retAddr 0, .retAddr 0] [.ref 71, .int a1, .int (u23.1 ||| ((1 : Int32) <<< (u23.2.2 &&& 31))), .int (u23.2.1 + (1 : Int32)), .int (u23.2.2 + (1 : Int32)), .int u41.1, .int u41.2] from ⟨Or.inr rfl, Or.inr rfl, Or.inr rfl, Or.inr rfl, Or.inr rfl, Or.inl rfl, Or.inl rfl, trivial⟩) hK
      · refine aw_iload_5 C dX6_alike_48 ?_
        refine bw_if_eq (tgt := 68) C dX6_alike_50 (by decide) hF (fun hF => ?_) (fun hF => ?_)
        · refine aw_iconst C dX6_alike_68 li_0 ?_
          refine aw_istore_5 C dX6_alike_69 rfl rfl ?_
          refine aw_iinc_6 C dX6_alike_71 li_1 rfl rfl ?_
          refine aw_goto (tgt := 41) C dX6_alike_74 (by decide) ?_
          cases hF
          exact hK
        · refine aw_aload_0 C dX6_alike_53 ?_
          refine aw_iload_4 C dX6_alike_54 ?_
          refine aw_iload_6 C dX6_alike_56 ?_
          obtain ⟨q5, e6, hF⟩ := bw_bind hF
          refine bw_V2i C dX6_alike_58 kyX6_areAlike lX6_213 kiX6_areAlike kvX6_areAlike (aw_rv C rfl rfl) rfl rfl (ctX6_areAlike n u23.2.2 u41.2 h q5 e6) ?_
          refine bw_if_ne (tgt := 68) C dX6_alike_61 (by decide) hF (fun hF => ?_) (fun hF => ?_)
          · refine aw_iconst C dX6_alike_68 li_0 ?_
            refine aw_istore_5 C dX6_alike_69 rfl rfl ?_
            refine aw_iinc_6 C dX6_alike_71 li_1 rfl rfl ?_
            refine aw_goto (tgt := 41) C dX6_alike_74 (by decide) ?_
            cases hF
            exact hK
          · refine aw_iconst C dX6_alike_64 li_1 ?_
            refine aw_goto (tgt := 69) C dX6_alike_65 (by decide) ?_
            refine aw_istore_5 C dX6_alike_69 rfl rfl ?_
            refine aw_iinc_6 C dX6_alike_71 li_1 rfl rfl ?_
            refine aw_goto (tgt := 41) C dX6_alike_74 (by decide) ?_
            cases hF
            exact hK
  · refine aw_aload_0 C dX6_alike_5 ?_
    refine aw_iload_1 C dX6_alike_6 ?_
    refine bw_V1i C dX6_alike_7 kyX6_isPart lX6_69 kiX6_isPart kvX6_isPart (aw_rv C rfl rfl) rfl rfl (ctX6_isPart a1 h _ rfl) ?_
    refine bw_if_ne (tgt := 16) C dX6_alike_10 (by decide) hF (fun hF => ?_) (fun hF => ?_)
    · refine aw_iconst C dX6_alike_16 li_0 ?_
      refine aw_istore_2 C dX6_alike_17 rfl rfl ?_
      refine aw_iconst C dX6_alike_18 li_0 ?_
      refine aw_istore_3 C dX6_alike_19 rfl rfl ?_
      refine aw_iconst C dX6_alike_20 li_0 ?_
      refine aw_istore_4 C dX6_alike_21 rfl rfl ?_
      refine aw_loop_rule (fun u23 : (Int32 × Int32 × Int32) => AW X 7 23 [.ref 71, .int a1, .int u23.1, .int u23.2.1, .int u23.2.2, .retAddr 0, .retAddr 0] [] wL wR h 0 0) (fun q => q = y) (fun u23 y23 hF hK => ?_) n ((0 : Int32), (0 : Int32), (0 : Int32)) _ hF rfl
      unfold BX6_alike_23' at hF
      refine aw_iload_4 C dX6_alike_23 ?_
      refine aw_aload_0 C dX6_alike_25 ?_
      refine aw_getR C dX6_alike_26 fX6_11 gX6_0 rfl rfl ?_
      refine aw_bipush C dX6_alike_29 lb_66 ?_
      refine aw_iald C dX6_alike_31 rfl (aw_ixk (k := 66) (n := 69) rfl rfl) ?_
      refine bw_icmp_ge (tgt := 122) C dX6_alike_32 (by decide) hF (fun hF => ?_) (fun hF => ?_)
      · refine aw_iload_1 C dX6_alike_122 ?_
        refine aw_iconst C dX6_alike_123 li_m1 ?_
        refine bw_icmp_ne (tgt := 131) C dX6_alike_124 (by decide) hF (fun hF => ?_) (fun hF => ?_)
        · refine aw_iload_2 C dX6_alike_131 ?_
          obtain rfl := Option.some.inj hF
          have hK : _ = y := hK
          subst hK
          exact aw_iret C E dX6_alike_132 rfl rfl (bw_ret rfl)
        · refine aw_iload_3 C dX6_alike_127 ?_
          refine aw_goto (tgt := 132) C dX6_alike_128 (by decide) ?_
          obtain rfl := Option.some.inj hF
          have hK : _ = y := hK
          subst hK
          exact aw_iret C E dX6_alike_132 rfl rfl (bw_ret rfl)
      · refine aw_iconst C dX6_alike_35 li_1 ?_
        refine aw_istore_5 C dX6_alike_36 rfl rfl ?_
        refine aw_iconst C dX6_alike_38 li_0 ?_
        refine aw_istore_6 C dX6_alike_39 rfl rfl ?_
        refine aw_loop_rule (fun u41 : (Int32 × Int32) => AW X 7 41 [.ref 71, .int a1, .int u23.1, .int u23.2.1, .int u23.2.2, .int u41.1, .int u41.2] [] wL wR h 0 0) _ (fun u41 y41 hF hK => ?_) n ((1 : Int32), (0 : Int32)) _ hF hK
        unfold BX6_alike_41' at hF
        refine aw_iload_6 C dX6_alike_41 ?_
        refine aw_iload_4 C dX6_alike_43 ?_
        refine bw_icmp_ge (tgt := 77) C dX6_alike_45 (by decide) hF (fun hF => ?_) (fun hF => ?_)
        · refine aw_iload_3 C dX6_alike_77 ?_
          refine aw_iload_5 C dX6_alike_78 ?_
          refine bw_if_eq (tgt := 87) C dX6_alike_80 (by decide) hF (fun hF => ?_) (fun hF => ?_)
          · refine aw_iconst C dX6_alike_87 li_0 ?_
            refine aw_iadd C dX6_alike_88 ?_
            refine aw_istore_3 C dX6_alike_89 rfl rfl ?_
            refine aw_iload_2 C dX6_alike_90 ?_
            refine aw_iload_1 C dX6_alike_91 ?_
            refine aw_iconst C dX6_alike_92 li_m1 ?_
            refine bw_icmp_eq (tgt := 113) C dX6_alike_93 (by decide) hF (fun hF => ?_) (fun hF => ?_)
            · refine aw_iconst C dX6_alike_113 li_0 ?_
              refine aw_ior C dX6_alike_114 ?_
              refine aw_istore_2 C dX6_alike_115 rfl rfl ?_
              refine aw_iinc_4 C dX6_alike_116 li_1 rfl rfl ?_
              refine aw_goto (tgt := 23) C dX6_alike_119 (by decide) ?_
              cases hF
              exact aw_weak (show aw_le [.ref 71, .int a1, .int (u23.1 ||| (0 : Int32)), .int (u23.2.1 + (0 : Int32)), .int (u23.2.2 + (1 : Int32)), .retAddr 0, .retAddr 0] [.ref 71, .int a1, .int (u23.1 ||| (0 : Int32)), .int (u23.2.1 + (0 : Int32)), .int (u23.2.2 + (1 : Int32)), .int u41.1, .int u41.2] from ⟨Or.inr rfl, Or.inr rfl, Or.inr rfl, Or.inr rfl, Or.inr rfl, Or.inl rfl, Or.inl rfl, trivial⟩) hK
            · refine aw_aload_0 C dX6_alike_96 ?_
              refine aw_iload_1 C dX6_alike_97 ?_
              refine aw_iload_4 C dX6_alike_98 ?_
              obtain ⟨q7, e8, hF⟩ := bw_bind hF
              refine bw_V2i C dX6_alike_100 kyX6_areAlike lX6_213 kiX6_areAlike kvX6_areAlike (aw_rv C rfl rfl) rfl rfl (ctX6_areAlike n a1 u23.2.2 h q7 e8) ?_
              refine bw_if_eq (tgt := 113) C dX6_alike_103 (by decide) hF (fun hF => ?_) (fun hF => ?_)
              · refine aw_iconst C dX6_alike_113 li_0 ?_
                refine aw_ior C dX6_alike_114 ?_
                refine aw_istore_2 C dX6_alike_115 rfl rfl ?_
                refine aw_iinc_4 C dX6_alike_116 li_1 rfl rfl ?_
                refine aw_goto (tgt := 23) C dX6_alike_119 (by decide) ?_
                cases hF
                exact aw_weak (show aw_le [.ref 71, .int a1, .int (u23.1 ||| (0 : Int32)), .int (u23.2.1 + (0 : Int32)), .int (u23.2.2 + (1 : Int32)), .retAddr 0, .retAddr 0] [.ref 71, .int a1, .int (u23.1 ||| (0 : Int32)), .int (u23.2.1 + (0 : Int32)), .int (u23.2.2 + (1 : Int32)), .int u41.1, .int u41.2] from ⟨Or.inr rfl, Or.inr rfl, Or.inr rfl, Or.inr rfl, Or.inr rfl, Or.inl rfl, Or.inl rfl, trivial⟩) hK
              · refine aw_iconst C dX6_alike_106 li_1 ?_
                refine aw_iload_4 C dX6_alike_107 ?_
                refine aw_ishl C dX6_alike_109 ?_
                refine aw_goto (tgt := 114) C dX6_alike_110 (by decide) ?_
                refine aw_ior C dX6_alike_114 ?_
                refine aw_istore_2 C dX6_alike_115 rfl rfl ?_
                refine aw_iinc_4 C dX6_alike_116 li_1 rfl rfl ?_
                refine aw_goto (tgt := 23) C dX6_alike_119 (by decide) ?_
                cases hF
                exact aw_weak (show aw_le [.ref 71, .int a1, .int (u23.1 ||| ((1 : Int32) <<< (u23.2.2 &&& 31))), .int (u23.2.1 + (0 : Int32)), .int (u23.2.2 + (1 : Int32)), .retAddr 0, .retAddr 0] [.ref 71, .int a1, .int (u23.1 ||| ((1 : Int32) <<< (u23.2.2 &&& 31))), .int (u23.2.1 + (0 : Int32)), .int (u23.2.2 + (1 : Int32)), .int u41.1, .int u41.2] from ⟨Or.inr rfl, Or.inr rfl, Or.inr rfl, Or.inr rfl, Or.inr rfl, Or.inl rfl, Or.inl rfl, trivial⟩) hK
          · refine aw_iconst C dX6_alike_83 li_1 ?_
            refine aw_goto (tgt := 88) C dX6_alike_84 (by decide) ?_
            refine aw_iadd C dX6_alike_88 ?_
            refine aw_istore_3 C dX6_alike_89 rfl rfl ?_
            refine aw_iload_2 C dX6_alike_90 ?_
            refine aw_iload_1 C dX6_alike_91 ?_
            refine aw_iconst C dX6_alike_92 li_m1 ?_
            refine bw_icmp_eq (tgt := 113) C dX6_alike_93 (by decide) hF (fun hF => ?_) (fun hF => ?_)
            · refine aw_iconst C dX6_alike_113 li_0 ?_
              refine aw_ior C dX6_alike_114 ?_
              refine aw_istore_2 C dX6_alike_115 rfl rfl ?_
              refine aw_iinc_4 C dX6_alike_116 li_1 rfl rfl ?_
              refine aw_goto (tgt := 23) C dX6_alike_119 (by decide) ?_
              cases hF
              exact aw_weak (show aw_le [.ref 71, .int a1, .int (u23.1 ||| (0 : Int32)), .int (u23.2.1 + (1 : Int32)), .int (u23.2.2 + (1 : Int32)), .retAddr 0, .retAddr 0] [.ref 71, .int a1, .int (u23.1 ||| (0 : Int32)), .int (u23.2.1 + (1 : Int32)), .int (u23.2.2 + (1 : Int32)), .int u41.1, .int u41.2] from ⟨Or.inr rfl, Or.inr rfl, Or.inr rfl, Or.inr rfl, Or.inr rfl, Or.inl rfl, Or.inl rfl, trivial⟩) hK
            · refine aw_aload_0 C dX6_alike_96 ?_
              refine aw_iload_1 C dX6_alike_97 ?_
              refine aw_iload_4 C dX6_alike_98 ?_
              obtain ⟨q9, e10, hF⟩ := bw_bind hF
              refine bw_V2i C dX6_alike_100 kyX6_areAlike lX6_213 kiX6_areAlike kvX6_areAlike (aw_rv C rfl rfl) rfl rfl (ctX6_areAlike n a1 u23.2.2 h q9 e10) ?_
              refine bw_if_eq (tgt := 113) C dX6_alike_103 (by decide) hF (fun hF => ?_) (fun hF => ?_)
              · refine aw_iconst C dX6_alike_113 li_0 ?_
                refine aw_ior C dX6_alike_114 ?_
                refine aw_istore_2 C dX6_alike_115 rfl rfl ?_
                refine aw_iinc_4 C dX6_alike_116 li_1 rfl rfl ?_
                refine aw_goto (tgt := 23) C dX6_alike_119 (by decide) ?_
                cases hF
                exact aw_weak (show aw_le [.ref 71, .int a1, .int (u23.1 ||| (0 : Int32)), .int (u23.2.1 + (1 : Int32)), .int (u23.2.2 + (1 : Int32)), .retAddr 0, .retAddr 0] [.ref 71, .int a1, .int (u23.1 ||| (0 : Int32)), .int (u23.2.1 + (1 : Int32)), .int (u23.2.2 + (1 : Int32)), .int u41.1, .int u41.2] from ⟨Or.inr rfl, Or.inr rfl, Or.inr rfl, Or.inr rfl, Or.inr rfl, Or.inl rfl, Or.inl rfl, trivial⟩) hK
              · refine aw_iconst C dX6_alike_106 li_1 ?_
                refine aw_iload_4 C dX6_alike_107 ?_
                refine aw_ishl C dX6_alike_109 ?_
                refine aw_goto (tgt := 114) C dX6_alike_110 (by decide) ?_
                refine aw_ior C dX6_alike_114 ?_
                refine aw_istore_2 C dX6_alike_115 rfl rfl ?_
                refine aw_iinc_4 C dX6_alike_116 li_1 rfl rfl ?_
                refine aw_goto (tgt := 23) C dX6_alike_119 (by decide) ?_
                cases hF
                exact aw_weak (show aw_le [.ref 71, .int a1, .int (u23.1 ||| ((1 : Int32) <<< (u23.2.2 &&& 31))), .int (u23.2.1 + (1 : Int32)), .int (u23.2.2 + (1 : Int32)), .retAddr 0, .retAddr 0] [.ref 71, .int a1, .int (u23.1 ||| ((1 : Int32) <<< (u23.2.2 &&& 31))), .int (u23.2.1 + (1 : Int32)), .int (u23.2.2 + (1 : Int32)), .int u41.1, .int u41.2] from ⟨Or.inr rfl, Or.inr rfl, Or.inr rfl, Or.inr rfl, Or.inr rfl, Or.inl rfl, Or.inl rfl, trivial⟩) hK
        · refine aw_iload_5 C dX6_alike_48 ?_
          refine bw_if_eq (tgt := 68) C dX6_alike_50 (by decide) hF (fun hF => ?_) (fun hF => ?_)
          · refine aw_iconst C dX6_alike_68 li_0 ?_
            refine aw_istore_5 C dX6_alike_69 rfl rfl ?_
            refine aw_iinc_6 C dX6_alike_71 li_1 rfl rfl ?_
            refine aw_goto (tgt := 41) C dX6_alike_74 (by decide) ?_
            cases hF
            exact hK
          · refine aw_aload_0 C dX6_alike_53 ?_
            refine aw_iload_4 C dX6_alike_54 ?_
            refine aw_iload_6 C dX6_alike_56 ?_
            obtain ⟨q11, e12, hF⟩ := bw_bind hF
            refine bw_V2i C dX6_alike_58 kyX6_areAlike lX6_213 kiX6_areAlike kvX6_areAlike (aw_rv C rfl rfl) rfl rfl (ctX6_areAlike n u23.2.2 u41.2 h q11 e12) ?_
            refine bw_if_ne (tgt := 68) C dX6_alike_61 (by decide) hF (fun hF => ?_) (fun hF => ?_)
            · refine aw_iconst C dX6_alike_68 li_0 ?_
              refine aw_istore_5 C dX6_alike_69 rfl rfl ?_
              refine aw_iinc_6 C dX6_alike_71 li_1 rfl rfl ?_
              refine aw_goto (tgt := 41) C dX6_alike_74 (by decide) ?_
              cases hF
              exact hK
            · refine aw_iconst C dX6_alike_64 li_1 ?_
              refine aw_goto (tgt := 69) C dX6_alike_65 (by decide) ?_
              refine aw_istore_5 C dX6_alike_69 rfl rfl ?_
              refine aw_iinc_6 C dX6_alike_71 li_1 rfl rfl ?_
              refine aw_goto (tgt := 41) C dX6_alike_74 (by decide) ?_
              cases hF
              exact hK
    · refine aw_bipush C dX6_alike_13 lb_m2 ?_
      obtain rfl := Option.some.inj hF
      exact aw_iret C E dX6_alike_15 rfl rfl (bw_ret rfl)
def BX6_byLot_71 (q1 : Int64) (u71 : (Int32 × aw_H)) : Option ((Int32 × aw_H) ⊕ ((Int32 × Int32 × aw_H) ⊕ (Int64 × aw_H))) :=
  (if (u71.2.1 72 66) ≤ u71.1 then some (Sum.inr (Sum.inr (q1, u71.2))) else (if aw_inb u71.1 6 = true then ((FX6_lays u71.1 (3 : Int32) (u71.2.1 78 (u71.1).toNatClampNeg) u71.2).bind (fun q4 => some (Sum.inl ((u71.1 + (1 : Int32)), q4)))) else none))
def BX6_byLot_5 (n : Nat) (a2 : Int32) (u5 : (Int32 × Int32 × aw_H)) : Option ((Int32 × Int32 × aw_H) ⊕ (Int64 × aw_H)) :=
  (if (u5.2.2.1 72 66) ≤ u5.2.1 then ((FX6_sumAt n a2 u5.2.2).bind (fun q1 => aw_loop (BX6_byLot_71 q1) n ((0 : Int32), u5.2.2))) else ((FX6_at u5.2.1 (3 : Int32) u5.2.2).bind (fun q6 => (if aw_inb u5.2.1 6 = true then ((FX6_lays u5.2.1 (3 : Int32) (((((u5.1 * (1103515245 : Int32)) + (12345 : Int32))).toUInt32 >>> (((9 : Int32)).toUInt32 &&& Int32.toUInt32 31)).toInt32 - (((((u5.1 * (1103515245 : Int32)) + (12345 : Int32))).toUInt32 >>> (((9 : Int32)).toUInt32 &&& Int32.toUInt32 31)).toInt32 / (1024 : Int32)) * (1024 : Int32)) (aw_sI u5.2.2 78 (u5.2.1).toNatClampNeg q6)).bind (fun q9 => some (Sum.inl (((u5.1 * (1103515245 : Int32)) + (12345 : Int32)), (u5.2.1 + (1 : Int32)), q9)))) else none))))
def FX6_byLot (n : Nat) (a1 : Int32) (a2 : Int32) (h : aw_H) : Option (Int64 × aw_H) :=
  aw_loop (BX6_byLot_5 n a2) n (a1, (0 : Int32), h)
set_option maxRecDepth 100000 in
set_option maxHeartbeats 4000000 in
theorem ctX6_byLot (n : Nat) (a1 : Int32) (a2 : Int32) (h : aw_H) (y : Int64 × aw_H) (hF : FX6_byLot n a1 a2 h = some y) : Ct 7 0 0 yX6_byLot cX6_byLot 7 (some .long) [.ref 71, .int a1, .int a2] wL wR h (aw_D (some (.long y.1)) y.2) := by
  refine Ct.of (ls0 := [.ref 71, .int a1, .int a2, .retAddr 0, .retAddr 0, .retAddr 0, .retAddr 0]) (by decide +kernel) rfl rfl (fun X C E hnm => ?_)
  have C : aw_C X RX6 cX6_byLot 7 7 0 0 := C
  unfold FX6_byLot at hF
  refine aw_iload_1 C dX6_byLot_0 ?_
  refine aw_istore_3 C dX6_byLot_1 rfl rfl ?_
  refine aw_iconst C dX6_byLot_2 li_0 ?_
  refine aw_istore_4 C dX6_byLot_3 rfl rfl ?_
  refine aw_weak (show aw_le [.ref 71, .retAddr 0, .int a2, .int a1, .int (0 : Int32), .retAddr 0, .retAddr 0] [.ref 71, .int a1, .int a2, .int a1, .int (0 : Int32), .retAddr 0, .retAddr 0] from ⟨Or.inr rfl, Or.inl rfl, Or.inr rfl, Or.inr rfl, Or.inr rfl, Or.inr rfl, Or.inr rfl, trivial⟩) ?_
  refine aw_loop_rule (fun u5 : (Int32 × Int32 × aw_H) => AW X 7 5 [.ref 71, .retAddr 0, .int a2, .int u5.1, .int u5.2.1, .retAddr 0, .retAddr 0] [] wL wR u5.2.2 0 0) (fun q => q = y) (fun u5 y5 hF hK => ?_) n (a1, (0 : Int32), h) _ hF rfl
  unfold BX6_byLot_5 at hF
  refine aw_iload_4 C dX6_byLot_5 ?_
  refine aw_aload_0 C dX6_byLot_7 ?_
  refine aw_getR C dX6_byLot_8 fX6_11 gX6_0 rfl rfl ?_
  refine aw_bipush C dX6_byLot_11 lb_66 ?_
  refine aw_iald C dX6_byLot_13 rfl (aw_ixk (k := 66) (n := 69) rfl rfl) ?_
  refine bw_icmp_ge (tgt := 61) C dX6_byLot_14 (by decide) hF (fun hF => ?_) (fun hF => ?_)
  · refine aw_aload_0 C dX6_byLot_61 ?_
    refine aw_iload_2 C dX6_byLot_62 ?_
    obtain ⟨q1, e2, hF⟩ := bw_bind hF
    refine bw_V1l C dX6_byLot_63 kyX6_sumAt lX6_158 kiX6_sumAt kvX6_sumAt (aw_rv C rfl rfl) rfl rfl (ctX6_sumAt n a2 u5.2.2 q1 e2) ?_
    refine aw_lstore_4 C dX6_byLot_66 rfl rfl ?_
    refine aw_iconst C dX6_byLot_68 li_0 ?_
    refine aw_istore_6 C dX6_byLot_69 rfl rfl ?_
    refine aw_weak (show aw_le [.ref 71, .retAddr 0, .retAddr 0, .retAddr 0, .long q1, .retAddr 0, .int (0 : Int32)] [.ref 71, .retAddr 0, .int a2, .int u5.1, .long q1, .retAddr 0, .int (0 : Int32)] from ⟨Or.inr rfl, Or.inr rfl, Or.inl rfl, Or.inl rfl, Or.inr rfl, Or.inr rfl, Or.inr rfl, trivial⟩) ?_
    refine aw_loop_rule (fun u71 : (Int32 × aw_H) => AW X 7 71 [.ref 71, .retAddr 0, .retAddr 0, .retAddr 0, .long q1, .retAddr 0, .int u71.1] [] wL wR u71.2 0 0) _ (fun u71 y71 hF hK => ?_) n ((0 : Int32), u5.2.2) _ hF hK
    unfold BX6_byLot_71 at hF
    refine aw_iload_6 C dX6_byLot_71 ?_
    refine aw_aload_0 C dX6_byLot_73 ?_
    refine aw_getR C dX6_byLot_74 fX6_11 gX6_0 rfl rfl ?_
    refine aw_bipush C dX6_byLot_77 lb_66 ?_
    refine aw_iald C dX6_byLot_79 rfl (aw_ixk (k := 66) (n := 69) rfl rfl) ?_
    refine bw_icmp_ge (tgt := 103) C dX6_byLot_80 (by decide) hF (fun hF => ?_) (fun hF => ?_)
    · refine aw_lload_4 C dX6_byLot_103 ?_
      obtain rfl := Option.some.inj hF
      have hK : _ = y := hK
      subst hK
      exact aw_lret C E dX6_byLot_105 rfl rfl (bw_ret rfl)
    · refine aw_aload_0 C dX6_byLot_83 ?_
      refine aw_iload_6 C dX6_byLot_84 ?_
      refine aw_iconst C dX6_byLot_86 li_3 ?_
      refine aw_aload_0 C dX6_byLot_87 ?_
      refine aw_getR C dX6_byLot_88 fX6_31 gX6_10 rfl rfl ?_
      refine aw_iload_6 C dX6_byLot_91 ?_
      obtain ⟨s3, hF⟩ := bw_side hF
      refine aw_iald C dX6_byLot_93 rfl (aw_ix s3) ?_
      obtain ⟨q4, e5, hF⟩ := bw_bind hF
      refine bw_V3v C dX6_byLot_94 kyX6_lays lX6_65 kiX6_lays kvX6_lays (aw_rv C rfl rfl) rfl rfl (ctX6_lays u71.1 (3 : Int32) (u71.2.1 78 (u71.1).toNatClampNeg) u71.2 q4 e5) ?_
      refine aw_iinc_6 C dX6_byLot_97 li_1 rfl rfl ?_
      refine aw_goto (tgt := 71) C dX6_byLot_100 (by decide) ?_
      cases hF
      exact hK
  · refine aw_iload_3 C dX6_byLot_17 ?_
    refine aw_ldc C dX6_byLot_18 nX6_216 ?_
    refine aw_imul C dX6_byLot_20 ?_
    refine aw_sipush C dX6_byLot_21 ls_12345 ?_
    refine aw_iadd C dX6_byLot_24 ?_
    refine aw_istore_3 C dX6_byLot_25 rfl rfl ?_
    refine aw_aload_0 C dX6_byLot_26 ?_
    refine aw_getR C dX6_byLot_27 fX6_31 gX6_10 rfl rfl ?_
    refine aw_iload_4 C dX6_byLot_30 ?_
    refine aw_aload_0 C dX6_byLot_32 ?_
    refine aw_iload_4 C dX6_byLot_33 ?_
    refine aw_iconst C dX6_byLot_35 li_3 ?_
    obtain ⟨q6, e7, hF⟩ := bw_bind hF
    refine bw_V2i C dX6_byLot_36 kyX6_at lX6_77 kiX6_at kvX6_at (aw_rv C rfl rfl) rfl rfl (ctX6_at u5.2.1 (3 : Int32) u5.2.2 q6 e7) ?_
    obtain ⟨s8, hF⟩ := bw_side hF
    refine aw_iast C dX6_byLot_39 rfl (aw_ix s8) ?_
    refine aw_aload_0 C dX6_byLot_40 ?_
    refine aw_iload_4 C dX6_byLot_41 ?_
    refine aw_iconst C dX6_byLot_43 li_3 ?_
    refine aw_iload_3 C dX6_byLot_44 ?_
    refine aw_bipush C dX6_byLot_45 lb_9 ?_
    refine aw_iushr C dX6_byLot_47 rfl ?_
    refine aw_sipush C dX6_byLot_48 ls_1024 ?_
    refine aw_irem C dX6_byLot_51 (by decide) ?_
    obtain ⟨q9, e10, hF⟩ := bw_bind hF
    refine bw_V3v C dX6_byLot_52 kyX6_lays lX6_65 kiX6_lays kvX6_lays (aw_rv C rfl rfl) rfl rfl (ctX6_lays u5.2.1 (3 : Int32) (((((u5.1 * (1103515245 : Int32)) + (12345 : Int32))).toUInt32 >>> (((9 : Int32)).toUInt32 &&& Int32.toUInt32 31)).toInt32 - (((((u5.1 * (1103515245 : Int32)) + (12345 : Int32))).toUInt32 >>> (((9 : Int32)).toUInt32 &&& Int32.toUInt32 31)).toInt32 / (1024 : Int32)) * (1024 : Int32)) (aw_sI u5.2.2 78 (u5.2.1).toNatClampNeg q6) q9 e10) ?_
    refine aw_iinc_4 C dX6_byLot_55 li_1 rfl rfl ?_
    refine aw_goto (tgt := 5) C dX6_byLot_58 (by decide) ?_
    cases hF
    exact hK
def FX6_drawn (n : Nat) (a1 : Int32) (a2 : Int32) (h : aw_H) : Option (Int64 × aw_H) :=
  (if (FX6_isTick a2) = 0 then some ((-9223372036854775808 : Int64), h) else ((FX6_byLot n a1 a2 h).bind (fun q1 => some (q1.1, q1.2))))
set_option maxRecDepth 100000 in
set_option maxHeartbeats 4000000 in
theorem ctX6_drawn (n : Nat) (a1 : Int32) (a2 : Int32) (h : aw_H) (y : Int64 × aw_H) (hF : FX6_drawn n a1 a2 h = some y) : Ct 8 0 0 yX6_drawn cX6_drawn 3 (some .long) [.ref 71, .int a1, .int a2] wL wR h (aw_D (some (.long y.1)) y.2) := by
  refine Ct.of (ls0 := [.ref 71, .int a1, .int a2]) (by decide +kernel) rfl rfl (fun X C E hnm => ?_)
  have C : aw_C X RX6 cX6_drawn 3 8 0 0 := C
  unfold FX6_drawn at hF
  refine aw_iload_2 C dX6_drawn_0 ?_
  refine bw_S1i C dX6_drawn_1 kyX6_isTick lX6_161 ksX6_isTick rfl rfl (ctX6_isTick a2 h _ rfl) ?_
  refine bw_if_eq (tgt := 16) C dX6_drawn_4 (by decide) hF (fun hF => ?_) (fun hF => ?_)
  · refine aw_ldc2 C dX6_drawn_16 nX6_136 ?_
    obtain rfl := Option.some.inj hF
    exact aw_lret C E dX6_drawn_19 rfl rfl (bw_ret rfl)
  · refine aw_aload_0 C dX6_drawn_7 ?_
    refine aw_iload_1 C dX6_drawn_8 ?_
    refine aw_iload_2 C dX6_drawn_9 ?_
    obtain ⟨q1, e2, hF⟩ := bw_bind hF
    refine bw_V2l C dX6_drawn_10 kyX6_byLot lX6_217 kiX6_byLot kvX6_byLot (aw_rv C rfl rfl) rfl rfl (ctX6_byLot n a1 a2 h q1 e2) ?_
    refine aw_goto (tgt := 19) C dX6_drawn_13 (by decide) ?_
    obtain rfl := Option.some.inj hF
    exact aw_lret C E dX6_drawn_19 rfl rfl (bw_ret rfl)
def BX6_chance_36 (n : Nat) (a1 : Int32) (a2 : Int32) (a3 : Int32) (a4 : Int32) (a5 : Int32) (u36 : (Int32 × Int32 × aw_H)) : Option ((Int32 × Int32 × aw_H) ⊕ (Int32 × aw_H)) :=
  (if a2 ≤ u36.2.1 then ((FX6_lowest n ((u36.1).toInt64) ((a2).toInt64) a5).bind (fun q1 => some (Sum.inr ((q1).toInt32, u36.2.2)))) else ((FX6_byLot n (a1 + u36.2.1) a3 u36.2.2).bind (fun q3 => (if (lg_cmp q3.1 ((a4).toInt64)) < 0 then some (Sum.inl ((u36.1 + (0 : Int32)), (u36.2.1 + (1 : Int32)), q3.2)) else some (Sum.inl ((u36.1 + (1 : Int32)), (u36.2.1 + (1 : Int32)), q3.2))))))
def FX6_chance (n : Nat) (a1 : Int32) (a2 : Int32) (a3 : Int32) (a4 : Int32) (a5 : Int32) (h : aw_H) : Option (Int32 × aw_H) :=
  (if (FX6_isIn ((a2).toInt64) (1 : Int64) (20 : Int64)) = 0 then some ((-2 : Int32), h) else (if (FX6_isTick a3) = 0 then some ((-2 : Int32), h) else (if (FX6_isLine a5) = 0 then some ((-2 : Int32), h) else aw_loop (BX6_chance_36 n a1 a2 a3 a4 a5) n ((0 : Int32), (0 : Int32), h))))
set_option maxRecDepth 100000 in
set_option maxHeartbeats 4000000 in
theorem ctX6_chance (n : Nat) (a1 : Int32) (a2 : Int32) (a3 : Int32) (a4 : Int32) (a5 : Int32) (h : aw_H) (y : Int32 × aw_H) (hF : FX6_chance n a1 a2 a3 a4 a5 h = some y) : Ct 8 0 0 yX6_chance cX6_chance 8 (some .int) [.ref 71, .int a1, .int a2, .int a3, .int a4, .int a5] wL wR h (aw_D (some (.int y.1)) y.2) := by
  refine Ct.of (ls0 := [.ref 71, .int a1, .int a2, .int a3, .int a4, .int a5, .retAddr 0, .retAddr 0]) (by decide +kernel) rfl rfl (fun X C E hnm => ?_)
  have C : aw_C X RX6 cX6_chance 8 8 0 0 := C
  unfold FX6_chance at hF
  refine aw_iload_2 C dX6_chance_0 ?_
  refine aw_i2l C dX6_chance_1 ?_
  refine aw_lconst C dX6_chance_2 ll_1 ?_
  refine aw_ldc2 C dX6_chance_3 nX6_93 ?_
  refine bw_S3i C dX6_chance_6 kyX6_isIn lX6_49 ksX6_isIn rfl rfl (ctX6_isIn ((a2).toInt64) (1 : Int64) (20 : Int64) h _ rfl) ?_
  refine bw_if_eq (tgt := 27) C dX6_chance_9 (by decide) hF (fun hF => ?_) (fun hF => ?_)
  · refine aw_bipush C dX6_chance_27 lb_m2 ?_
    obtain rfl := Option.some.inj hF
    exact aw_iret C E dX6_chance_29 rfl rfl (bw_ret rfl)
  · refine aw_iload_3 C dX6_chance_12 ?_
    refine bw_S1i C dX6_chance_13 kyX6_isTick lX6_161 ksX6_isTick rfl rfl (ctX6_isTick a3 h _ rfl) ?_
    refine bw_if_eq (tgt := 27) C dX6_chance_16 (by decide) hF (fun hF => ?_) (fun hF => ?_)
    · refine aw_bipush C dX6_chance_27 lb_m2 ?_
      obtain rfl := Option.some.inj hF
      exact aw_iret C E dX6_chance_29 rfl rfl (bw_ret rfl)
    · refine aw_iload_5 C dX6_chance_19 ?_
      refine bw_S1i C dX6_chance_21 kyX6_isLine lX6_122 ksX6_isLine rfl rfl (ctX6_isLine a5 h _ rfl) ?_
      refine bw_if_ne (tgt := 30) C dX6_chance_24 (by decide) hF (fun hF => ?_) (fun hF => ?_)
      · refine aw_iconst C dX6_chance_30 li_0 ?_
        refine aw_istore_6 C dX6_chance_31 rfl rfl ?_
        refine aw_iconst C dX6_chance_33 li_0 ?_
        refine aw_istore_7 C dX6_chance_34 rfl rfl ?_
        refine aw_loop_rule (fun u36 : (Int32 × Int32 × aw_H) => AW X 8 36 [.ref 71, .int a1, .int a2, .int a3, .int a4, .int a5, .int u36.1, .int u36.2.1] [] wL wR u36.2.2 0 0) (fun q => q = y) (fun u36 y36 hF hK => ?_) n ((0 : Int32), (0 : Int32), h) _ hF rfl
        unfold BX6_chance_36 at hF
        refine aw_iload_7 C dX6_chance_36 ?_
        refine aw_iload_2 C dX6_chance_38 ?_
        refine bw_icmp_ge (tgt := 74) C dX6_chance_39 (by decide) hF (fun hF => ?_) (fun hF => ?_)
        · refine aw_iload_6 C dX6_chance_74 ?_
          refine aw_i2l C dX6_chance_76 ?_
          refine aw_iload_2 C dX6_chance_77 ?_
          refine aw_i2l C dX6_chance_78 ?_
          refine aw_iload_5 C dX6_chance_79 ?_
          obtain ⟨q1, e2, hF⟩ := bw_bind hF
          refine bw_S3l C dX6_chance_81 kyX6_lowest lX6_132 ksX6_lowest rfl rfl (ctX6_lowest n ((u36.1).toInt64) ((a2).toInt64) a5 u36.2.2 q1 e2) ?_
          refine aw_l2i C dX6_chance_84 ?_
          obtain rfl := Option.some.inj hF
          have hK : _ = y := hK
          subst hK
          exact aw_iret C E dX6_chance_85 rfl rfl (bw_ret rfl)
        · refine aw_iload_6 C dX6_chance_42 ?_
          refine aw_aload_0 C dX6_chance_44 ?_
          refine aw_iload_1 C dX6_chance_45 ?_
          refine aw_iload_7 C dX6_chance_46 ?_
          refine aw_iadd C dX6_chance_48 ?_
          refine aw_iload_3 C dX6_chance_49 ?_
          obtain ⟨q3, e4, hF⟩ := bw_bind hF
          refine bw_V2l C dX6_chance_50 kyX6_byLot lX6_217 kiX6_byLot kvX6_byLot (aw_rv C rfl rfl) rfl rfl (ctX6_byLot n (a1 + u36.2.1) a3 u36.2.2 q3 e4) ?_
          refine aw_iload_4 C dX6_chance_53 ?_
          refine aw_i2l C dX6_chance_55 ?_
          refine aw_lcmp C dX6_chance_56 ?_
          refine bw_if_lt (tgt := 64) C dX6_chance_57 (by decide) hF (fun hF => ?_) (fun hF => ?_)
          · refine aw_iconst C dX6_chance_64 li_0 ?_
            refine aw_iadd C dX6_chance_65 ?_
            refine aw_istore_6 C dX6_chance_66 rfl rfl ?_
            refine aw_iinc_7 C dX6_chance_68 li_1 rfl rfl ?_
            refine aw_goto (tgt := 36) C dX6_chance_71 (by decide) ?_
            cases hF
            exact hK
          · refine aw_iconst C dX6_chance_60 li_1 ?_
            refine aw_goto (tgt := 65) C dX6_chance_61 (by decide) ?_
            refine aw_iadd C dX6_chance_65 ?_
            refine aw_istore_6 C dX6_chance_66 rfl rfl ?_
            refine aw_iinc_7 C dX6_chance_68 li_1 rfl rfl ?_
            refine aw_goto (tgt := 36) C dX6_chance_71 (by decide) ?_
            cases hF
            exact hK
      · refine aw_bipush C dX6_chance_27 lb_m2 ?_
        obtain rfl := Option.some.inj hF
        exact aw_iret C E dX6_chance_29 rfl rfl (bw_ret rfl)
def FX6_isByte (a1 : Int32) : Int32 :=
  (FX6_isIn ((a1).toInt64) (0 : Int64) (255 : Int64))
set_option maxRecDepth 100000 in
set_option maxHeartbeats 4000000 in
theorem ctX6_isByte (a1 : Int32) (h : aw_H) (y : Int32) (hF : FX6_isByte a1 = y) : Ct 1 0 0 yX6_isByte cX6_isByte 1 (some .boolean) [.int a1] wL wR h (aw_D (some (.int y)) h) := by
  refine Ct.of (ls0 := [.int a1]) (by decide +kernel) rfl rfl (fun X C E hnm => ?_)
  have C : aw_C X RX6 cX6_isByte 1 1 0 0 := C
  unfold FX6_isByte at hF
  refine aw_iload_0 C dX6_isByte_0 ?_
  refine aw_i2l C dX6_isByte_1 ?_
  refine aw_lconst C dX6_isByte_2 ll_0 ?_
  refine aw_ldc2 C dX6_isByte_3 nX6_220 ?_
  refine bw_S3i C dX6_isByte_6 kyX6_isIn lX6_49 ksX6_isIn rfl rfl (ctX6_isIn ((a1).toInt64) (0 : Int64) (255 : Int64) h _ rfl) ?_
  subst hF
  exact aw_zret C E (aw_nz (bX6_isIn ((a1).toInt64) (0 : Int64) (255 : Int64))) dX6_isByte_9 rfl rfl (bw_ret rfl)
theorem bX6_isByte (a1 : Int32) : FX6_isByte a1 = 0 ∨ FX6_isByte a1 = 1 := by
  unfold FX6_isByte
  repeat' split
  all_goals first | exact Or.inl rfl | exact Or.inr rfl | exact bX6_isIn _ _ _
def BX6_feed_70 (a1 : Int32) (a2 : Int32) (a3 : Int32) (a4 : Int32) (a5 : Int32) (a6 : Int32) (u70 : (Int32 × aw_H)) : Option ((Int32 × aw_H) ⊕ (Int32 × aw_H)) :=
  (if a1 ≤ u70.1 then some (Sum.inr ((u70.2.1 71 12), u70.2)) else (if u70.1 = 0 then (if aw_inb (u70.2.1 71 12) 60 = true then some (Sum.inl ((u70.1 + (1 : Int32)), (aw_sI (aw_sI u70.2 79 ((u70.2.1 71 12)).toNatClampNeg a2) 71 12 (((aw_sI u70.2 79 ((u70.2.1 71 12)).toNatClampNeg a2).1 71 12) + (1 : Int32))))) else none) else (if u70.1 = (1 : Int32) then (if aw_inb (u70.2.1 71 12) 60 = true then some (Sum.inl ((u70.1 + (1 : Int32)), (aw_sI (aw_sI u70.2 79 ((u70.2.1 71 12)).toNatClampNeg a3) 71 12 (((aw_sI u70.2 79 ((u70.2.1 71 12)).toNatClampNeg a3).1 71 12) + (1 : Int32))))) else none) else (if u70.1 = (2 : Int32) then (if aw_inb (u70.2.1 71 12) 60 = true then some (Sum.inl ((u70.1 + (1 : Int32)), (aw_sI (aw_sI u70.2 79 ((u70.2.1 71 12)).toNatClampNeg a4) 71 12 (((aw_sI u70.2 79 ((u70.2.1 71 12)).toNatClampNeg a4).1 71 12) + (1 : Int32))))) else none) else (if u70.1 = (3 : Int32) then (if aw_inb (u70.2.1 71 12) 60 = true then some (Sum.inl ((u70.1 + (1 : Int32)), (aw_sI (aw_sI u70.2 79 ((u70.2.1 71 12)).toNatClampNeg a5) 71 12 (((aw_sI u70.2 79 ((u70.2.1 71 12)).toNatClampNeg a5).1 71 12) + (1 : Int32))))) else none) else (if aw_inb (u70.2.1 71 12) 60 = true then some (Sum.inl ((u70.1 + (1 : Int32)), (aw_sI (aw_sI u70.2 79 ((u70.2.1 71 12)).toNatClampNeg a6) 71 12 (((aw_sI u70.2 79 ((u70.2.1 71 12)).toNatClampNeg a6).1 71 12) + (1 : Int32))))) else none))))))
def FX6_feed (n : Nat) (a1 : Int32) (a2 : Int32) (a3 : Int32) (a4 : Int32) (a5 : Int32) (a6 : Int32) (h : aw_H) : Option (Int32 × aw_H) :=
  (if (FX6_isIn ((a1).toInt64) (1 : Int64) (5 : Int64)) = 0 then some ((-2 : Int32), h) else (if (FX6_isByte a2) = 0 then some ((-2 : Int32), h) else (if (FX6_isByte a3) = 0 then some ((-2 : Int32), h) else (if (FX6_isByte a4) = 0 then some ((-2 : Int32), h) else (if (FX6_isByte a5) = 0 then some ((-2 : Int32), h) else (if (FX6_isByte a6) = 0 then some ((-2 : Int32), h) else (if ((h.1 71 12) + a1) ≤ (60 : Int32) then aw_loop (BX6_feed_70 a1 a2 a3 a4 a5 a6) n ((0 : Int32), h) else some ((-4 : Int32), h))))))))
set_option maxRecDepth 100000 in
set_option maxHeartbeats 4000000 in
theorem ctX6_feed (n : Nat) (a1 : Int32) (a2 : Int32) (a3 : Int32) (a4 : Int32) (a5 : Int32) (a6 : Int32) (h : aw_H) (y : Int32 × aw_H) (hF : FX6_feed n a1 a2 a3 a4 a5 a6 h = some y) : Ct 2 0 0 yX6_feed cX6_feed 8 (some .int) [.ref 71, .int a1, .int a2, .int a3, .int a4, .int a5, .int a6] wL wR h (aw_D (some (.int y.1)) y.2) := by
  refine Ct.of (ls0 := [.ref 71, .int a1, .int a2, .int a3, .int a4, .int a5, .int a6, .retAddr 0]) (by decide +kernel) rfl rfl (fun X C E hnm => ?_)
  have C : aw_C X RX6 cX6_feed 8 2 0 0 := C
  unfold FX6_feed at hF
  refine aw_iload_1 C dX6_feed_0 ?_
  refine aw_i2l C dX6_feed_1 ?_
  refine aw_lconst C dX6_feed_2 ll_1 ?_
  refine aw_ldc2 C dX6_feed_3 nX6_53 ?_
  refine bw_S3i C dX6_feed_6 kyX6_isIn lX6_49 ksX6_isIn rfl rfl (ctX6_isIn ((a1).toInt64) (1 : Int64) (5 : Int64) h _ rfl) ?_
  refine bw_if_eq (tgt := 50) C dX6_feed_9 (by decide) hF (fun hF => ?_) (fun hF => ?_)
  · refine aw_bipush C dX6_feed_50 lb_m2 ?_
    obtain rfl := Option.some.inj hF
    exact aw_iret C E dX6_feed_52 rfl rfl (bw_ret rfl)
  · refine aw_iload_2 C dX6_feed_12 ?_
    refine bw_S1i C dX6_feed_13 kyX6_isByte lX6_222 ksX6_isByte rfl rfl (ctX6_isByte a2 h _ rfl) ?_
    refine bw_if_eq (tgt := 50) C dX6_feed_16 (by decide) hF (fun hF => ?_) (fun hF => ?_)
    · refine aw_bipush C dX6_feed_50 lb_m2 ?_
      obtain rfl := Option.some.inj hF
      exact aw_iret C E dX6_feed_52 rfl rfl (bw_ret rfl)
    · refine aw_iload_3 C dX6_feed_19 ?_
      refine bw_S1i C dX6_feed_20 kyX6_isByte lX6_222 ksX6_isByte rfl rfl (ctX6_isByte a3 h _ rfl) ?_
      refine bw_if_eq (tgt := 50) C dX6_feed_23 (by decide) hF (fun hF => ?_) (fun hF => ?_)
      · refine aw_bipush C dX6_feed_50 lb_m2 ?_
        obtain rfl := Option.some.inj hF
        exact aw_iret C E dX6_feed_52 rfl rfl (bw_ret rfl)
      · refine aw_iload_4 C dX6_feed_26 ?_
        refine bw_S1i C dX6_feed_28 kyX6_isByte lX6_222 ksX6_isByte rfl rfl (ctX6_isByte a4 h _ rfl) ?_
        refine bw_if_eq (tgt := 50) C dX6_feed_31 (by decide) hF (fun hF => ?_) (fun hF => ?_)
        · refine aw_bipush C dX6_feed_50 lb_m2 ?_
          obtain rfl := Option.some.inj hF
          exact aw_iret C E dX6_feed_52 rfl rfl (bw_ret rfl)
        · refine aw_iload_5 C dX6_feed_34 ?_
          refine bw_S1i C dX6_feed_36 kyX6_isByte lX6_222 ksX6_isByte rfl rfl (ctX6_isByte a5 h _ rfl) ?_
          refine bw_if_eq (tgt := 50) C dX6_feed_39 (by decide) hF (fun hF => ?_) (fun hF => ?_)
          · refine aw_bipush C dX6_feed_50 lb_m2 ?_
            obtain rfl := Option.some.inj hF
            exact aw_iret C E dX6_feed_52 rfl rfl (bw_ret rfl)
          · refine aw_iload_6 C dX6_feed_42 ?_
            refine bw_S1i C dX6_feed_44 kyX6_isByte lX6_222 ksX6_isByte rfl rfl (ctX6_isByte a6 h _ rfl) ?_
            refine bw_if_ne (tgt := 53) C dX6_feed_47 (by decide) hF (fun hF => ?_) (fun hF => ?_)
            · refine aw_aload_0 C dX6_feed_53 ?_
              refine aw_getI C dX6_feed_54 fX6_225 gX6_12 rfl ?_
              refine aw_iload_1 C dX6_feed_57 ?_
              refine aw_iadd C dX6_feed_58 ?_
              refine aw_bipush C dX6_feed_59 lb_60 ?_
              refine bw_icmp_le (tgt := 67) C dX6_feed_61 (by decide) hF (fun hF => ?_) (fun hF => ?_)
              · refine aw_iconst C dX6_feed_67 li_0 ?_
                refine aw_istore_7 C dX6_feed_68 rfl rfl ?_
                refine aw_loop_rule (fun u70 : (Int32 × aw_H) => AW X 8 70 [.ref 71, .int a1, .int a2, .int a3, .int a4, .int a5, .int a6, .int u70.1] [] wL wR u70.2 0 0) (fun q => q = y) (fun u70 y70 hF hK => ?_) n ((0 : Int32), h) _ hF rfl
                unfold BX6_feed_70 at hF
                refine aw_iload_7 C dX6_feed_70 ?_
                refine aw_iload_1 C dX6_feed_72 ?_
                refine bw_icmp_ge (tgt := 144) C dX6_feed_73 (by decide) hF (fun hF => ?_) (fun hF => ?_)
                · refine aw_aload_0 C dX6_feed_144 ?_
                  refine aw_getI C dX6_feed_145 fX6_225 gX6_12 rfl ?_
                  obtain rfl := Option.some.inj hF
                  have hK : _ = y := hK
                  subst hK
                  exact aw_iret C E dX6_feed_148 rfl rfl (bw_ret rfl)
                · refine aw_aload_0 C dX6_feed_76 ?_
                  refine aw_getR C dX6_feed_77 fX6_34 gX6_11 rfl rfl ?_
                  refine aw_aload_0 C dX6_feed_80 ?_
                  refine aw_getI C dX6_feed_81 fX6_225 gX6_12 rfl ?_
                  refine aw_iload_7 C dX6_feed_84 ?_
                  refine bw_if_ne (tgt := 93) C dX6_feed_86 (by decide) hF (fun hF => ?_) (fun hF => ?_)
                  · refine aw_iload_7 C dX6_feed_93 ?_
                    refine aw_iconst C dX6_feed_95 li_1 ?_
                    refine bw_icmp_ne (tgt := 103) C dX6_feed_96 (by decide) hF (fun hF => ?_) (fun hF => ?_)
                    · refine aw_iload_7 C dX6_feed_103 ?_
                      refine aw_iconst C dX6_feed_105 li_2 ?_
                      refine bw_icmp_ne (tgt := 114) C dX6_feed_106 (by decide) hF (fun hF => ?_) (fun hF => ?_)
                      · refine aw_iload_7 C dX6_feed_114 ?_
                        refine aw_iconst C dX6_feed_116 li_3 ?_
                        refine bw_icmp_ne (tgt := 125) C dX6_feed_117 (by decide) hF (fun hF => ?_) (fun hF => ?_)
                        · refine aw_iload_6 C dX6_feed_125 ?_
                          obtain ⟨s1, hF⟩ := bw_side hF
                          refine aw_iast C dX6_feed_127 rfl (aw_ix s1) ?_
                          refine aw_aload_0 C dX6_feed_128 ?_
                          refine aw_dup C dX6_feed_129 rfl ?_
                          refine aw_getI C dX6_feed_130 fX6_225 gX6_12 rfl ?_
                          refine aw_iconst C dX6_feed_133 li_1 ?_
                          refine aw_iadd C dX6_feed_134 ?_
                          refine aw_putI C dX6_feed_135 fX6_225 gX6_12 rfl ?_
                          refine aw_iinc_7 C dX6_feed_138 li_1 rfl rfl ?_
                          refine aw_goto (tgt := 70) C dX6_feed_141 (by decide) ?_
                          cases hF
                          exact hK
                        · refine aw_iload_5 C dX6_feed_120 ?_
                          refine aw_goto (tgt := 127) C dX6_feed_122 (by decide) ?_
                          obtain ⟨s2, hF⟩ := bw_side hF
                          refine aw_iast C dX6_feed_127 rfl (aw_ix s2) ?_
                          refine aw_aload_0 C dX6_feed_128 ?_
                          refine aw_dup C dX6_feed_129 rfl ?_
                          refine aw_getI C dX6_feed_130 fX6_225 gX6_12 rfl ?_
                          refine aw_iconst C dX6_feed_133 li_1 ?_
                          refine aw_iadd C dX6_feed_134 ?_
                          refine aw_putI C dX6_feed_135 fX6_225 gX6_12 rfl ?_
                          refine aw_iinc_7 C dX6_feed_138 li_1 rfl rfl ?_
                          refine aw_goto (tgt := 70) C dX6_feed_141 (by decide) ?_
                          cases hF
                          exact hK
                      · refine aw_iload_4 C dX6_feed_109 ?_
                        refine aw_goto (tgt := 127) C dX6_feed_111 (by decide) ?_
                        obtain ⟨s3, hF⟩ := bw_side hF
                        refine aw_iast C dX6_feed_127 rfl (aw_ix s3) ?_
                        refine aw_aload_0 C dX6_feed_128 ?_
                        refine aw_dup C dX6_feed_129 rfl ?_
                        refine aw_getI C dX6_feed_130 fX6_225 gX6_12 rfl ?_
                        refine aw_iconst C dX6_feed_133 li_1 ?_
                        refine aw_iadd C dX6_feed_134 ?_
                        refine aw_putI C dX6_feed_135 fX6_225 gX6_12 rfl ?_
                        refine aw_iinc_7 C dX6_feed_138 li_1 rfl rfl ?_
                        refine aw_goto (tgt := 70) C dX6_feed_141 (by decide) ?_
                        cases hF
                        exact hK
                    · refine aw_iload_3 C dX6_feed_99 ?_
                      refine aw_goto (tgt := 127) C dX6_feed_100 (by decide) ?_
                      obtain ⟨s4, hF⟩ := bw_side hF
                      refine aw_iast C dX6_feed_127 rfl (aw_ix s4) ?_
                      refine aw_aload_0 C dX6_feed_128 ?_
                      refine aw_dup C dX6_feed_129 rfl ?_
                      refine aw_getI C dX6_feed_130 fX6_225 gX6_12 rfl ?_
                      refine aw_iconst C dX6_feed_133 li_1 ?_
                      refine aw_iadd C dX6_feed_134 ?_
                      refine aw_putI C dX6_feed_135 fX6_225 gX6_12 rfl ?_
                      refine aw_iinc_7 C dX6_feed_138 li_1 rfl rfl ?_
                      refine aw_goto (tgt := 70) C dX6_feed_141 (by decide) ?_
                      cases hF
                      exact hK
                  · refine aw_iload_2 C dX6_feed_89 ?_
                    refine aw_goto (tgt := 127) C dX6_feed_90 (by decide) ?_
                    obtain ⟨s5, hF⟩ := bw_side hF
                    refine aw_iast C dX6_feed_127 rfl (aw_ix s5) ?_
                    refine aw_aload_0 C dX6_feed_128 ?_
                    refine aw_dup C dX6_feed_129 rfl ?_
                    refine aw_getI C dX6_feed_130 fX6_225 gX6_12 rfl ?_
                    refine aw_iconst C dX6_feed_133 li_1 ?_
                    refine aw_iadd C dX6_feed_134 ?_
                    refine aw_putI C dX6_feed_135 fX6_225 gX6_12 rfl ?_
                    refine aw_iinc_7 C dX6_feed_138 li_1 rfl rfl ?_
                    refine aw_goto (tgt := 70) C dX6_feed_141 (by decide) ?_
                    cases hF
                    exact hK
              · refine aw_bipush C dX6_feed_64 lb_m4 ?_
                obtain rfl := Option.some.inj hF
                exact aw_iret C E dX6_feed_66 rfl rfl (bw_ret rfl)
            · refine aw_bipush C dX6_feed_50 lb_m2 ?_
              obtain rfl := Option.some.inj hF
              exact aw_iret C E dX6_feed_52 rfl rfl (bw_ret rfl)
def FX6_byteAt (a1 : Int32) (h : aw_H) : Option (Int32) :=
  (if (h.1 71 12) ≤ a1 then some (-1 : Int32) else (if aw_inb a1 60 = true then some (h.1 79 (a1).toNatClampNeg) else none))
set_option maxRecDepth 100000 in
set_option maxHeartbeats 4000000 in
theorem ctX6_byteAt (a1 : Int32) (h : aw_H) (y : Int32) (hF : FX6_byteAt a1 h = some y) : Ct 0 0 0 yX6_byteAt cX6_byteAt 2 (some .int) [.ref 71, .int a1] wL wR h (aw_D (some (.int y)) h) := by
  refine Ct.of (ls0 := [.ref 71, .int a1]) (by decide +kernel) rfl rfl (fun X C E hnm => ?_)
  have C : aw_C X RX6 cX6_byteAt 2 0 0 0 := C
  unfold FX6_byteAt at hF
  refine aw_iload_1 C dX6_byteAt_0 ?_
  refine aw_aload_0 C dX6_byteAt_1 ?_
  refine aw_getI C dX6_byteAt_2 fX6_225 gX6_12 rfl ?_
  refine bw_icmp_ge (tgt := 17) C dX6_byteAt_5 (by decide) hF (fun hF => ?_) (fun hF => ?_)
  · refine aw_iconst C dX6_byteAt_17 li_m1 ?_
    obtain rfl := Option.some.inj hF
    exact aw_iret C E dX6_byteAt_18 rfl rfl (bw_ret rfl)
  · refine aw_aload_0 C dX6_byteAt_8 ?_
    refine aw_getR C dX6_byteAt_9 fX6_34 gX6_11 rfl rfl ?_
    refine aw_iload_1 C dX6_byteAt_12 ?_
    obtain ⟨s1, hF⟩ := bw_side hF
    refine aw_iald C dX6_byteAt_13 rfl (aw_ix s1) ?_
    refine aw_goto (tgt := 18) C dX6_byteAt_14 (by decide) ?_
    obtain rfl := Option.some.inj hF
    exact aw_iret C E dX6_byteAt_18 rfl rfl (bw_ret rfl)
def FX6_isLetter (a1 : Int32) : Int32 :=
  (if a1 < (97 : Int32) then (0 : Int32) else (if (122 : Int32) < a1 then (0 : Int32) else (1 : Int32)))
set_option maxRecDepth 100000 in
set_option maxHeartbeats 4000000 in
theorem ctX6_isLetter (a1 : Int32) (h : aw_H) (y : Int32) (hF : FX6_isLetter a1 = y) : Ct 0 0 0 yX6_isLetter cX6_isLetter 1 (some .boolean) [.int a1] wL wR h (aw_D (some (.int y)) h) := by
  refine Ct.of (ls0 := [.int a1]) (by decide +kernel) rfl rfl (fun X C E hnm => ?_)
  have C : aw_C X RX6 cX6_isLetter 1 0 0 0 := C
  unfold FX6_isLetter at hF
  refine aw_iload_0 C dX6_isLetter_0 ?_
  refine aw_bipush C dX6_isLetter_1 lb_97 ?_
  refine bw_icmp_lt (tgt := 16) C dX6_isLetter_3 (by decide) hF (fun hF => ?_) (fun hF => ?_)
  · refine aw_iconst C dX6_isLetter_16 li_0 ?_
    subst hF
    exact aw_zret C E rfl dX6_isLetter_17 rfl rfl (bw_ret rfl)
  · refine aw_iload_0 C dX6_isLetter_6 ?_
    refine aw_bipush C dX6_isLetter_7 lb_122 ?_
    refine bw_icmp_gt (tgt := 16) C dX6_isLetter_9 (by decide) hF (fun hF => ?_) (fun hF => ?_)
    · refine aw_iconst C dX6_isLetter_16 li_0 ?_
      subst hF
      exact aw_zret C E rfl dX6_isLetter_17 rfl rfl (bw_ret rfl)
    · refine aw_iconst C dX6_isLetter_12 li_1 ?_
      refine aw_goto (tgt := 17) C dX6_isLetter_13 (by decide) ?_
      subst hF
      exact aw_zret C E rfl dX6_isLetter_17 rfl rfl (bw_ret rfl)
theorem bX6_isLetter (a1 : Int32) : FX6_isLetter a1 = 0 ∨ FX6_isLetter a1 = 1 := by
  unfold FX6_isLetter
  repeat' split
  all_goals first | exact Or.inl rfl | exact Or.inr rfl
def FX6_isDigit (a1 : Int32) : Int32 :=
  (if a1 < (48 : Int32) then (0 : Int32) else (if (57 : Int32) < a1 then (0 : Int32) else (1 : Int32)))
set_option maxRecDepth 100000 in
set_option maxHeartbeats 4000000 in
theorem ctX6_isDigit (a1 : Int32) (h : aw_H) (y : Int32) (hF : FX6_isDigit a1 = y) : Ct 0 0 0 yX6_isDigit cX6_isDigit 1 (some .boolean) [.int a1] wL wR h (aw_D (some (.int y)) h) := by
  refine Ct.of (ls0 := [.int a1]) (by decide +kernel) rfl rfl (fun X C E hnm => ?_)
  have C : aw_C X RX6 cX6_isDigit 1 0 0 0 := C
  unfold FX6_isDigit at hF
  refine aw_iload_0 C dX6_isDigit_0 ?_
  refine aw_bipush C dX6_isDigit_1 lb_48 ?_
  refine bw_icmp_lt (tgt := 16) C dX6_isDigit_3 (by decide) hF (fun hF => ?_) (fun hF => ?_)
  · refine aw_iconst C dX6_isDigit_16 li_0 ?_
    subst hF
    exact aw_zret C E rfl dX6_isDigit_17 rfl rfl (bw_ret rfl)
  · refine aw_iload_0 C dX6_isDigit_6 ?_
    refine aw_bipush C dX6_isDigit_7 lb_57 ?_
    refine bw_icmp_gt (tgt := 16) C dX6_isDigit_9 (by decide) hF (fun hF => ?_) (fun hF => ?_)
    · refine aw_iconst C dX6_isDigit_16 li_0 ?_
      subst hF
      exact aw_zret C E rfl dX6_isDigit_17 rfl rfl (bw_ret rfl)
    · refine aw_iconst C dX6_isDigit_12 li_1 ?_
      refine aw_goto (tgt := 17) C dX6_isDigit_13 (by decide) ?_
      subst hF
      exact aw_zret C E rfl dX6_isDigit_17 rfl rfl (bw_ret rfl)
theorem bX6_isDigit (a1 : Int32) : FX6_isDigit a1 = 0 ∨ FX6_isDigit a1 = 1 := by
  unfold FX6_isDigit
  repeat' split
  all_goals first | exact Or.inl rfl | exact Or.inr rfl
def BX6_skips_56 (q5 : Int32) (u56 : aw_H) : Option (aw_H ⊕ (aw_H ⊕ aw_H)) :=
  (if (FX6_isLetter q5) = 0 then (if (FX6_isDigit q5) = 0 then some (Sum.inr (Sum.inr u56)) else ((FX6_byteAt (u56.1 71 14) u56).bind (fun q7 => (if (FX6_isDigit q7) = 0 then some (Sum.inr (Sum.inr u56)) else some (Sum.inl (aw_sI u56 71 14 ((u56.1 71 14) + (1 : Int32)))))))) else ((FX6_byteAt (u56.1 71 14) u56).bind (fun q9 => (if (FX6_isLetter q9) = 0 then (if (FX6_isDigit q5) = 0 then some (Sum.inr (Sum.inr u56)) else ((FX6_byteAt (u56.1 71 14) u56).bind (fun q11 => (if (FX6_isDigit q11) = 0 then some (Sum.inr (Sum.inr u56)) else some (Sum.inl (aw_sI u56 71 14 ((u56.1 71 14) + (1 : Int32)))))))) else some (Sum.inl (aw_sI u56 71 14 ((u56.1 71 14) + (1 : Int32))))))))
def BX6_skips_0 (n : Nat) (u0 : aw_H) : Option (aw_H ⊕ aw_H) :=
  ((FX6_byteAt (u0.1 71 13) u0).bind (fun q1 => (if q1 = (32 : Int32) then some (Sum.inl (aw_sI u0 71 13 ((u0.1 71 13) + (1 : Int32)))) else ((FX6_byteAt (u0.1 71 13) u0).bind (fun q3 => (if q3 = (10 : Int32) then some (Sum.inl (aw_sI u0 71 13 ((u0.1 71 13) + (1 : Int32)))) else ((FX6_byteAt ((aw_sI u0 71 14 (u0.1 71 13)).1 71 13) (aw_sI u0 71 14 (u0.1 71 13))).bind (fun q5 => aw_loop (BX6_skips_56 q5) n (aw_sI u0 71 14 (u0.1 71 13))))))))))
def FX6_skips (n : Nat) (h : aw_H) : Option (aw_H) :=
  aw_loop (BX6_skips_0 n) n h
set_option maxRecDepth 100000 in
set_option maxHeartbeats 4000000 in
theorem ctX6_skips (n : Nat) (h : aw_H) (y : aw_H) (hF : FX6_skips n h = some y) : Ct 1 0 0 yX6_skips cX6_skips 2 none [.ref 71] wL wR h (aw_D (none) y) := by
  refine Ct.of (ls0 := [.ref 71, .retAddr 0]) (by decide +kernel) rfl rfl (fun X C E hnm => ?_)
  have C : aw_C X RX6 cX6_skips 2 1 0 0 := C
  unfold FX6_skips at hF
  refine aw_loop_rule (fun u0 : aw_H => AW X 2 0 [.ref 71, .retAddr 0] [] wL wR u0 0 0) (fun q => q = y) (fun u0 y0 hF hK => ?_) n h _ hF rfl
  unfold BX6_skips_0 at hF
  refine aw_aload_0 C dX6_skips_0 ?_
  refine aw_aload_0 C dX6_skips_1 ?_
  refine aw_getI C dX6_skips_2 fX6_228 gX6_13 rfl ?_
  obtain ⟨q1, e2, hF⟩ := bw_bind hF
  refine bw_V1i C dX6_skips_5 kyX6_byteAt lX6_231 kiX6_byteAt kvX6_byteAt (aw_rv C rfl rfl) rfl rfl (ctX6_byteAt (u0.1 71 13) u0 q1 e2) ?_
  refine aw_bipush C dX6_skips_8 lb_32 ?_
  refine bw_icmp_eq (tgt := 26) C dX6_skips_10 (by decide) hF (fun hF => ?_) (fun hF => ?_)
  · refine aw_aload_0 C dX6_skips_26 ?_
    refine aw_dup C dX6_skips_27 rfl ?_
    refine aw_getI C dX6_skips_28 fX6_228 gX6_13 rfl ?_
    refine aw_iconst C dX6_skips_31 li_1 ?_
    refine aw_iadd C dX6_skips_32 ?_
    refine aw_putI C dX6_skips_33 fX6_228 gX6_13 rfl ?_
    refine aw_goto (tgt := 0) C dX6_skips_36 (by decide) ?_
    cases hF
    exact hK
  · refine aw_aload_0 C dX6_skips_13 ?_
    refine aw_aload_0 C dX6_skips_14 ?_
    refine aw_getI C dX6_skips_15 fX6_228 gX6_13 rfl ?_
    obtain ⟨q3, e4, hF⟩ := bw_bind hF
    refine bw_V1i C dX6_skips_18 kyX6_byteAt lX6_231 kiX6_byteAt kvX6_byteAt (aw_rv C rfl rfl) rfl rfl (ctX6_byteAt (u0.1 71 13) u0 q3 e4) ?_
    refine aw_bipush C dX6_skips_21 lb_10 ?_
    refine bw_icmp_ne (tgt := 39) C dX6_skips_23 (by decide) hF (fun hF => ?_) (fun hF => ?_)
    · refine aw_aload_0 C dX6_skips_39 ?_
      refine aw_aload_0 C dX6_skips_40 ?_
      refine aw_getI C dX6_skips_41 fX6_228 gX6_13 rfl ?_
      refine aw_putI C dX6_skips_44 fX6_234 gX6_14 rfl ?_
      refine aw_aload_0 C dX6_skips_47 ?_
      refine aw_aload_0 C dX6_skips_48 ?_
      refine aw_getI C dX6_skips_49 fX6_228 gX6_13 rfl ?_
      obtain ⟨q5, e6, hF⟩ := bw_bind hF
      refine bw_V1i C dX6_skips_52 kyX6_byteAt lX6_231 kiX6_byteAt kvX6_byteAt (aw_rv C rfl rfl) rfl rfl (ctX6_byteAt ((aw_sI u0 71 14 (u0.1 71 13)).1 71 13) (aw_sI u0 71 14 (u0.1 71 13)) q5 e6) ?_
      refine aw_istore_1 C dX6_skips_55 rfl rfl ?_
      refine aw_loop_rule (fun u56 : aw_H => AW X 2 56 [.ref 71, .int q5] [] wL wR u56 0 0) _ (fun u56 y56 hF hK => ?_) n (aw_sI u0 71 14 (u0.1 71 13)) _ hF hK
      unfold BX6_skips_56 at hF
      refine aw_iload_1 C dX6_skips_56 ?_
      refine bw_S1i C dX6_skips_57 kyX6_isLetter lX6_237 ksX6_isLetter rfl rfl (ctX6_isLetter q5 u56 _ rfl) ?_
      refine bw_if_eq (tgt := 77) C dX6_skips_60 (by decide) hF (fun hF => ?_) (fun hF => ?_)
      · refine aw_iload_1 C dX6_skips_77 ?_
        refine bw_S1i C dX6_skips_78 kyX6_isDigit lX6_240 ksX6_isDigit rfl rfl (ctX6_isDigit q5 u56 _ rfl) ?_
        refine bw_if_eq (tgt := 111) C dX6_skips_81 (by decide) hF (fun hF => ?_) (fun hF => ?_)
        · obtain rfl := Option.some.inj hF
          have hK : _ = y := hK
          subst hK
          exact aw_vret C E dX6_skips_111 rfl rfl (bw_ret rfl)
        · refine aw_aload_0 C dX6_skips_84 ?_
          refine aw_aload_0 C dX6_skips_85 ?_
          refine aw_getI C dX6_skips_86 fX6_234 gX6_14 rfl ?_
          obtain ⟨q7, e8, hF⟩ := bw_bind hF
          refine bw_V1i C dX6_skips_89 kyX6_byteAt lX6_231 kiX6_byteAt kvX6_byteAt (aw_rv C rfl rfl) rfl rfl (ctX6_byteAt (u56.1 71 14) u56 q7 e8) ?_
          refine bw_S1i C dX6_skips_92 kyX6_isDigit lX6_240 ksX6_isDigit rfl rfl (ctX6_isDigit q7 u56 _ rfl) ?_
          refine bw_if_eq (tgt := 111) C dX6_skips_95 (by decide) hF (fun hF => ?_) (fun hF => ?_)
          · obtain rfl := Option.some.inj hF
            have hK : _ = y := hK
            subst hK
            exact aw_vret C E dX6_skips_111 rfl rfl (bw_ret rfl)
          · refine aw_aload_0 C dX6_skips_98 ?_
            refine aw_dup C dX6_skips_99 rfl ?_
            refine aw_getI C dX6_skips_100 fX6_234 gX6_14 rfl ?_
            refine aw_iconst C dX6_skips_103 li_1 ?_
            refine aw_iadd C dX6_skips_104 ?_
            refine aw_putI C dX6_skips_105 fX6_234 gX6_14 rfl ?_
            refine aw_goto (tgt := 56) C dX6_skips_108 (by decide) ?_
            cases hF
            exact hK
      · refine aw_aload_0 C dX6_skips_63 ?_
        refine aw_aload_0 C dX6_skips_64 ?_
        refine aw_getI C dX6_skips_65 fX6_234 gX6_14 rfl ?_
        obtain ⟨q9, e10, hF⟩ := bw_bind hF
        refine bw_V1i C dX6_skips_68 kyX6_byteAt lX6_231 kiX6_byteAt kvX6_byteAt (aw_rv C rfl rfl) rfl rfl (ctX6_byteAt (u56.1 71 14) u56 q9 e10) ?_
        refine bw_S1i C dX6_skips_71 kyX6_isLetter lX6_237 ksX6_isLetter rfl rfl (ctX6_isLetter q9 u56 _ rfl) ?_
        refine bw_if_ne (tgt := 98) C dX6_skips_74 (by decide) hF (fun hF => ?_) (fun hF => ?_)
        · refine aw_aload_0 C dX6_skips_98 ?_
          refine aw_dup C dX6_skips_99 rfl ?_
          refine aw_getI C dX6_skips_100 fX6_234 gX6_14 rfl ?_
          refine aw_iconst C dX6_skips_103 li_1 ?_
          refine aw_iadd C dX6_skips_104 ?_
          refine aw_putI C dX6_skips_105 fX6_234 gX6_14 rfl ?_
          refine aw_goto (tgt := 56) C dX6_skips_108 (by decide) ?_
          cases hF
          exact hK
        · refine aw_iload_1 C dX6_skips_77 ?_
          refine bw_S1i C dX6_skips_78 kyX6_isDigit lX6_240 ksX6_isDigit rfl rfl (ctX6_isDigit q5 u56 _ rfl) ?_
          refine bw_if_eq (tgt := 111) C dX6_skips_81 (by decide) hF (fun hF => ?_) (fun hF => ?_)
          · obtain rfl := Option.some.inj hF
            have hK : _ = y := hK
            subst hK
            exact aw_vret C E dX6_skips_111 rfl rfl (bw_ret rfl)
          · refine aw_aload_0 C dX6_skips_84 ?_
            refine aw_aload_0 C dX6_skips_85 ?_
            refine aw_getI C dX6_skips_86 fX6_234 gX6_14 rfl ?_
            obtain ⟨q11, e12, hF⟩ := bw_bind hF
            refine bw_V1i C dX6_skips_89 kyX6_byteAt lX6_231 kiX6_byteAt kvX6_byteAt (aw_rv C rfl rfl) rfl rfl (ctX6_byteAt (u56.1 71 14) u56 q11 e12) ?_
            refine bw_S1i C dX6_skips_92 kyX6_isDigit lX6_240 ksX6_isDigit rfl rfl (ctX6_isDigit q11 u56 _ rfl) ?_
            refine bw_if_eq (tgt := 111) C dX6_skips_95 (by decide) hF (fun hF => ?_) (fun hF => ?_)
            · obtain rfl := Option.some.inj hF
              have hK : _ = y := hK
              subst hK
              exact aw_vret C E dX6_skips_111 rfl rfl (bw_ret rfl)
            · refine aw_aload_0 C dX6_skips_98 ?_
              refine aw_dup C dX6_skips_99 rfl ?_
              refine aw_getI C dX6_skips_100 fX6_234 gX6_14 rfl ?_
              refine aw_iconst C dX6_skips_103 li_1 ?_
              refine aw_iadd C dX6_skips_104 ?_
              refine aw_putI C dX6_skips_105 fX6_234 gX6_14 rfl ?_
              refine aw_goto (tgt := 56) C dX6_skips_108 (by decide) ?_
              cases hF
              exact hK
    · refine aw_aload_0 C dX6_skips_26 ?_
      refine aw_dup C dX6_skips_27 rfl ?_
      refine aw_getI C dX6_skips_28 fX6_228 gX6_13 rfl ?_
      refine aw_iconst C dX6_skips_31 li_1 ?_
      refine aw_iadd C dX6_skips_32 ?_
      refine aw_putI C dX6_skips_33 fX6_228 gX6_13 rfl ?_
      refine aw_goto (tgt := 0) C dX6_skips_36 (by decide) ?_
      cases hF
      exact hK
def BX6_wordHere_87 (u4 : (Int32 × Int32)) (u87 : Int32) : Option (Int32 ⊕ (Int32 ⊕ ((Int32 × Int32) ⊕ Int32))) :=
  ((FJ0_charAt_5068e 1006 u87).bind (fun q5 => (if q5 = (32 : Int32) then some (Sum.inr (Sum.inr (Sum.inl ((u4.1 + (1 : Int32)), (u87 + (1 : Int32)))))) else some (Sum.inl (u87 + (1 : Int32))))))
def BX6_wordHere_87' (u4 : (Int32 × Int32)) (u87 : Int32) : Option (Int32 ⊕ (Int32 ⊕ ((Int32 × Int32) ⊕ Int32))) :=
  ((FJ0_charAt_5068e 1006 u87).bind (fun q7 => (if q7 = (32 : Int32) then some (Sum.inr (Sum.inr (Sum.inl ((u4.1 + (1 : Int32)), (u87 + (1 : Int32)))))) else some (Sum.inl (u87 + (1 : Int32))))))
def BX6_wordHere_87'' (u4 : (Int32 × Int32)) (u87 : Int32) : Option (Int32 ⊕ (Int32 ⊕ ((Int32 × Int32) ⊕ Int32))) :=
  ((FJ0_charAt_5068e 1006 u87).bind (fun q9 => (if q9 = (32 : Int32) then some (Sum.inr (Sum.inr (Sum.inl ((u4.1 + (1 : Int32)), (u87 + (1 : Int32)))))) else some (Sum.inl (u87 + (1 : Int32))))))
def BX6_wordHere_87''' (u4 : (Int32 × Int32)) (u87 : Int32) : Option (Int32 ⊕ (Int32 ⊕ ((Int32 × Int32) ⊕ Int32))) :=
  ((FJ0_charAt_5068e 1006 u87).bind (fun q17 => (if q17 = (32 : Int32) then some (Sum.inr (Sum.inr (Sum.inl ((u4.1 + (1 : Int32)), (u87 + (1 : Int32)))))) else some (Sum.inl (u87 + (1 : Int32))))))
def BX6_wordHere_87'''' (u4 : (Int32 × Int32)) (u87 : Int32) : Option (Int32 ⊕ (Int32 ⊕ ((Int32 × Int32) ⊕ Int32))) :=
  ((FJ0_charAt_5068e 1006 u87).bind (fun q19 => (if q19 = (32 : Int32) then some (Sum.inr (Sum.inr (Sum.inl ((u4.1 + (1 : Int32)), (u87 + (1 : Int32)))))) else some (Sum.inl (u87 + (1 : Int32))))))
def BX6_wordHere_87''''' (u4 : (Int32 × Int32)) (u87 : Int32) : Option (Int32 ⊕ (Int32 ⊕ ((Int32 × Int32) ⊕ Int32))) :=
  ((FJ0_charAt_5068e 1006 u87).bind (fun q21 => (if q21 = (32 : Int32) then some (Sum.inr (Sum.inr (Sum.inl ((u4.1 + (1 : Int32)), (u87 + (1 : Int32)))))) else some (Sum.inl (u87 + (1 : Int32))))))
def BX6_wordHere_15 (n : Nat) (h : aw_H) (u4 : (Int32 × Int32)) (u15 : Int32) : Option (Int32 ⊕ ((Int32 × Int32) ⊕ Int32)) :=
  ((FJ0_charAt_5068e 1006 (u4.2 + u15)).bind (fun q1 => (if q1 = (32 : Int32) then ((FJ0_charAt_5068e 1006 (u4.2 + u15)).bind (fun q3 => (if q3 = (32 : Int32) then (if ((h.1 71 13) + u15) = (h.1 71 14) then (if u15 ≤ 0 then aw_loop (BX6_wordHere_87'' u4) n u4.2 else some (Sum.inr (Sum.inr u4.1))) else aw_loop (BX6_wordHere_87' u4) n u4.2) else aw_loop (BX6_wordHere_87 u4) n u4.2))) else ((FX6_byteAt ((h.1 71 13) + u15) h).bind (fun q11 => ((FJ0_charAt_5068e 1006 (u4.2 + u15)).bind (fun q13 => (if q11 = q13 then some (Sum.inl (u15 + (1 : Int32))) else ((FJ0_charAt_5068e 1006 (u4.2 + u15)).bind (fun q15 => (if q15 = (32 : Int32) then (if ((h.1 71 13) + u15) = (h.1 71 14) then (if u15 ≤ 0 then aw_loop (BX6_wordHere_87''''' u4) n u4.2 else some (Sum.inr (Sum.inr u4.1))) else aw_loop (BX6_wordHere_87'''' u4) n u4.2) else aw_loop (BX6_wordHere_87''' u4) n u4.2)))))))))))
def BX6_wordHere_4 (n : Nat) (h : aw_H) (u4 : (Int32 × Int32)) : Option ((Int32 × Int32) ⊕ Int32) :=
  (if (FJ0_length_8abf5 1006) ≤ u4.2 then some (Sum.inr (-1 : Int32)) else aw_loop (BX6_wordHere_15 n h u4) n (0 : Int32))
def FX6_wordHere (n : Nat) (h : aw_H) : Option (Int32) :=
  aw_loop (BX6_wordHere_4 n h) n ((0 : Int32), (0 : Int32))
set_option maxRecDepth 100000 in
set_option maxHeartbeats 4000000 in
theorem ctX6_wordHere (n : Nat) (h : aw_H) (y : Int32) (hF : FX6_wordHere n h = some y) : Ct 4 0 0 yX6_wordHere cX6_wordHere 4 (some .int) [.ref 71] wL wR h (aw_D (some (.int y)) h) := by
  refine Ct.of (ls0 := [.ref 71, .retAddr 0, .retAddr 0, .retAddr 0]) (by decide +kernel) rfl rfl (fun X C E hnm => ?_)
  have C : aw_C X RX6 cX6_wordHere 4 4 0 0 := C
  unfold FX6_wordHere at hF
  refine aw_iconst C dX6_wordHere_0 li_0 ?_
  refine aw_istore_1 C dX6_wordHere_1 rfl rfl ?_
  refine aw_iconst C dX6_wordHere_2 li_0 ?_
  refine aw_istore_2 C dX6_wordHere_3 rfl rfl ?_
  refine aw_loop_rule (fun u4 : (Int32 × Int32) => AW X 4 4 [.ref 71, .int u4.1, .int u4.2, .retAddr 0] [] wL wR h 0 0) (fun q => q = y) (fun u4 y4 hF hK => ?_) n ((0 : Int32), (0 : Int32)) _ hF rfl
  unfold BX6_wordHere_4 at hF
  refine aw_iload_2 C dX6_wordHere_4 ?_
  refine aw_ldcS (i := 6) C dX6_wordHere_5 (by decide) rfl rfl ?_
  refine bw_V0i C dX6_wordHere_7 kyJ0_length_8abf5 lX6_243 kiJ0_length_8abf5 kvJ0_length_8abf5 (aw_rvK C rfl rfl) rfl rfl (ctJ0_length_8abf5 1006 h rfl _ rfl) ?_
  refine bw_icmp_ge (tgt := 113) C dX6_wordHere_10 (by decide) hF (fun hF => ?_) (fun hF => ?_)
  · refine aw_iconst C dX6_wordHere_113 li_m1 ?_
    obtain rfl := Option.some.inj hF
    have hK : _ = y := hK
    subst hK
    exact aw_iret C E dX6_wordHere_114 rfl rfl (bw_ret rfl)
  · refine aw_iconst C dX6_wordHere_13 li_0 ?_
    refine aw_istore_3 C dX6_wordHere_14 rfl rfl ?_
    refine aw_loop_rule (fun u15 : Int32 => AW X 4 15 [.ref 71, .int u4.1, .int u4.2, .int u15] [] wL wR h 0 0) _ (fun u15 y15 hF hK => ?_) n (0 : Int32) _ hF hK
    unfold BX6_wordHere_15 at hF
    refine aw_ldcS (i := 6) C dX6_wordHere_15 (by decide) rfl rfl ?_
    refine aw_iload_2 C dX6_wordHere_17 ?_
    refine aw_iload_3 C dX6_wordHere_18 ?_
    refine aw_iadd C dX6_wordHere_19 ?_
    obtain ⟨q1, e2, hF⟩ := bw_bind hF
    refine bw_V1i C dX6_wordHere_20 kyJ0_charAt_5068e lX6_249 kiJ0_charAt_5068e kvJ0_charAt_5068e (aw_rvK C rfl rfl) rfl rfl (ctJ0_charAt_5068e 1006 (u4.2 + u15) h rfl q1 e2) ?_
    refine aw_bipush C dX6_wordHere_23 lb_32 ?_
    refine bw_icmp_eq (tgt := 55) C dX6_wordHere_25 (by decide) hF (fun hF => ?_) (fun hF => ?_)
    · refine aw_ldcS (i := 6) C dX6_wordHere_55 (by decide) rfl rfl ?_
      refine aw_iload_2 C dX6_wordHere_57 ?_
      refine aw_iload_3 C dX6_wordHere_58 ?_
      refine aw_iadd C dX6_wordHere_59 ?_
      obtain ⟨q3, e4, hF⟩ := bw_bind hF
      refine bw_V1i C dX6_wordHere_60 kyJ0_charAt_5068e lX6_249 kiJ0_charAt_5068e kvJ0_charAt_5068e (aw_rvK C rfl rfl) rfl rfl (ctJ0_charAt_5068e 1006 (u4.2 + u15) h rfl q3 e4) ?_
      refine aw_bipush C dX6_wordHere_63 lb_32 ?_
      refine bw_icmp_ne (tgt := 87) C dX6_wordHere_65 (by decide) hF (fun hF => ?_) (fun hF => ?_)
      · refine aw_weak (show aw_le [.ref 71, .int u4.1, .int u4.2, .retAddr 0] [.ref 71, .int u4.1, .int u4.2, .int u15] from ⟨Or.inr rfl, Or.inr rfl, Or.inr rfl, Or.inl rfl, trivial⟩) ?_
        refine aw_loop_rule (fun u87 : Int32 => AW X 4 87 [.ref 71, .int u4.1, .int u87, .retAddr 0] [] wL wR h 0 0) _ (fun u87 y87 hF hK => ?_) n u4.2 _ hF hK
        unfold BX6_wordHere_87 at hF
        refine aw_ldcS (i := 6) C dX6_wordHere_87 (by decide) rfl rfl ?_
        refine aw_iload_2 C dX6_wordHere_89 ?_
        obtain ⟨q5, e6, hF⟩ := bw_bind hF
        refine bw_V1i C dX6_wordHere_90 kyJ0_charAt_5068e lX6_249 kiJ0_charAt_5068e kvJ0_charAt_5068e (aw_rvK C rfl rfl) rfl rfl (ctJ0_charAt_5068e 1006 u87 h rfl q5 e6) ?_
        refine aw_bipush C dX6_wordHere_93 lb_32 ?_
        refine bw_icmp_eq (tgt := 104) C dX6_wordHere_95 (by decide) hF (fun hF => ?_) (fun hF => ?_)
        · refine aw_iinc_2 C dX6_wordHere_104 li_1 rfl rfl ?_
          refine aw_iinc_1 C dX6_wordHere_107 li_1 rfl rfl ?_
          refine aw_goto (tgt := 4) C dX6_wordHere_110 (by decide) ?_
          cases hF
          exact hK
        · refine aw_iinc_2 C dX6_wordHere_98 li_1 rfl rfl ?_
          refine aw_goto (tgt := 87) C dX6_wordHere_101 (by decide) ?_
          cases hF
          exact hK
      · refine aw_aload_0 C dX6_wordHere_68 ?_
        refine aw_getI C dX6_wordHere_69 fX6_228 gX6_13 rfl ?_
        refine aw_iload_3 C dX6_wordHere_72 ?_
        refine aw_iadd C dX6_wordHere_73 ?_
        refine aw_aload_0 C dX6_wordHere_74 ?_
        refine aw_getI C dX6_wordHere_75 fX6_234 gX6_14 rfl ?_
        refine bw_icmp_ne (tgt := 87) C dX6_wordHere_78 (by decide) hF (fun hF => ?_) (fun hF => ?_)
        · refine aw_weak (show aw_le [.ref 71, .int u4.1, .int u4.2, .retAddr 0] [.ref 71, .int u4.1, .int u4.2, .int u15] from ⟨Or.inr rfl, Or.inr rfl, Or.inr rfl, Or.inl rfl, trivial⟩) ?_
          refine aw_loop_rule (fun u87 : Int32 => AW X 4 87 [.ref 71, .int u4.1, .int u87, .retAddr 0] [] wL wR h 0 0) _ (fun u87 y87 hF hK => ?_) n u4.2 _ hF hK
          unfold BX6_wordHere_87' at hF
          refine aw_ldcS (i := 6) C dX6_wordHere_87 (by decide) rfl rfl ?_
          refine aw_iload_2 C dX6_wordHere_89 ?_
          obtain ⟨q7, e8, hF⟩ := bw_bind hF
          refine bw_V1i C dX6_wordHere_90 kyJ0_charAt_5068e lX6_249 kiJ0_charAt_5068e kvJ0_charAt_5068e (aw_rvK C rfl rfl) rfl rfl (ctJ0_charAt_5068e 1006 u87 h rfl q7 e8) ?_
          refine aw_bipush C dX6_wordHere_93 lb_32 ?_
          refine bw_icmp_eq (tgt := 104) C dX6_wordHere_95 (by decide) hF (fun hF => ?_) (fun hF => ?_)
          · refine aw_iinc_2 C dX6_wordHere_104 li_1 rfl rfl ?_
            refine aw_iinc_1 C dX6_wordHere_107 li_1 rfl rfl ?_
            refine aw_goto (tgt := 4) C dX6_wordHere_110 (by decide) ?_
            cases hF
            exact hK
          · refine aw_iinc_2 C dX6_wordHere_98 li_1 rfl rfl ?_
            refine aw_goto (tgt := 87) C dX6_wordHere_101 (by decide) ?_
            cases hF
            exact hK
        · refine aw_iload_3 C dX6_wordHere_81 ?_
          refine bw_if_le (tgt := 87) C dX6_wordHere_82 (by decide) hF (fun hF => ?_) (fun hF => ?_)
          · refine aw_weak (show aw_le [.ref 71, .int u4.1, .int u4.2, .retAddr 0] [.ref 71, .int u4.1, .int u4.2, .int u15] from ⟨Or.inr rfl, Or.inr rfl, Or.inr rfl, Or.inl rfl, trivial⟩) ?_
            refine aw_loop_rule (fun u87 : Int32 => AW X 4 87 [.ref 71, .int u4.1, .int u87, .retAddr 0] [] wL wR h 0 0) _ (fun u87 y87 hF hK => ?_) n u4.2 _ hF hK
            unfold BX6_wordHere_87'' at hF
            refine aw_ldcS (i := 6) C dX6_wordHere_87 (by decide) rfl rfl ?_
            refine aw_iload_2 C dX6_wordHere_89 ?_
            obtain ⟨q9, e10, hF⟩ := bw_bind hF
            refine bw_V1i C dX6_wordHere_90 kyJ0_charAt_5068e lX6_249 kiJ0_charAt_5068e kvJ0_charAt_5068e (aw_rvK C rfl rfl) rfl rfl (ctJ0_charAt_5068e 1006 u87 h rfl q9 e10) ?_
            refine aw_bipush C dX6_wordHere_93 lb_32 ?_
            refine bw_icmp_eq (tgt := 104) C dX6_wordHere_95 (by decide) hF (fun hF => ?_) (fun hF => ?_)
            · refine aw_iinc_2 C dX6_wordHere_104 li_1 rfl rfl ?_
              refine aw_iinc_1 C dX6_wordHere_107 li_1 rfl rfl ?_
              refine aw_goto (tgt := 4) C dX6_wordHere_110 (by decide) ?_
              cases hF
              exact hK
            · refine aw_iinc_2 C dX6_wordHere_98 li_1 rfl rfl ?_
              refine aw_goto (tgt := 87) C dX6_wordHere_101 (by decide) ?_
              cases hF
              exact hK
          · refine aw_iload_1 C dX6_wordHere_85 ?_
            obtain rfl := Option.some.inj hF
            have hK : _ = y := hK
            subst hK
            exact aw_iret C E dX6_wordHere_86 rfl rfl (bw_ret rfl)
    · refine aw_aload_0 C dX6_wordHere_28 ?_
      refine aw_aload_0 C dX6_wordHere_29 ?_
      refine aw_getI C dX6_wordHere_30 fX6_228 gX6_13 rfl ?_
      refine aw_iload_3 C dX6_wordHere_33 ?_
      refine aw_iadd C dX6_wordHere_34 ?_
      obtain ⟨q11, e12, hF⟩ := bw_bind hF
      refine bw_V1i C dX6_wordHere_35 kyX6_byteAt lX6_231 kiX6_byteAt kvX6_byteAt (aw_rv C rfl rfl) rfl rfl (ctX6_byteAt ((h.1 71 13) + u15) h q11 e12) ?_
      refine aw_ldcS (i := 6) C dX6_wordHere_38 (by decide) rfl rfl ?_
      refine aw_iload_2 C dX6_wordHere_40 ?_
      refine aw_iload_3 C dX6_wordHere_41 ?_
      refine aw_iadd C dX6_wordHere_42 ?_
      obtain ⟨q13, e14, hF⟩ := bw_bind hF
      refine bw_V1i C dX6_wordHere_43 kyJ0_charAt_5068e lX6_249 kiJ0_charAt_5068e kvJ0_charAt_5068e (aw_rvK C rfl rfl) rfl rfl (ctJ0_charAt_5068e 1006 (u4.2 + u15) h rfl q13 e14) ?_
      refine bw_icmp_ne (tgt := 55) C dX6_wordHere_46 (by decide) hF (fun hF => ?_) (fun hF => ?_)
      · refine aw_ldcS (i := 6) C dX6_wordHere_55 (by decide) rfl rfl ?_
        refine aw_iload_2 C dX6_wordHere_57 ?_
        refine aw_iload_3 C dX6_wordHere_58 ?_
        refine aw_iadd C dX6_wordHere_59 ?_
        obtain ⟨q15, e16, hF⟩ := bw_bind hF
        refine bw_V1i C dX6_wordHere_60 kyJ0_charAt_5068e lX6_249 kiJ0_charAt_5068e kvJ0_charAt_5068e (aw_rvK C rfl rfl) rfl rfl (ctJ0_charAt_5068e 1006 (u4.2 + u15) h rfl q15 e16) ?_
        refine aw_bipush C dX6_wordHere_63 lb_32 ?_
        refine bw_icmp_ne (tgt := 87) C dX6_wordHere_65 (by decide) hF (fun hF => ?_) (fun hF => ?_)
        · refine aw_weak (show aw_le [.ref 71, .int u4.1, .int u4.2, .retAddr 0] [.ref 71, .int u4.1, .int u4.2, .int u15] from ⟨Or.inr rfl, Or.inr rfl, Or.inr rfl, Or.inl rfl, trivial⟩) ?_
          refine aw_loop_rule (fun u87 : Int32 => AW X 4 87 [.ref 71, .int u4.1, .int u87, .retAddr 0] [] wL wR h 0 0) _ (fun u87 y87 hF hK => ?_) n u4.2 _ hF hK
          unfold BX6_wordHere_87''' at hF
          refine aw_ldcS (i := 6) C dX6_wordHere_87 (by decide) rfl rfl ?_
          refine aw_iload_2 C dX6_wordHere_89 ?_
          obtain ⟨q17, e18, hF⟩ := bw_bind hF
          refine bw_V1i C dX6_wordHere_90 kyJ0_charAt_5068e lX6_249 kiJ0_charAt_5068e kvJ0_charAt_5068e (aw_rvK C rfl rfl) rfl rfl (ctJ0_charAt_5068e 1006 u87 h rfl q17 e18) ?_
          refine aw_bipush C dX6_wordHere_93 lb_32 ?_
          refine bw_icmp_eq (tgt := 104) C dX6_wordHere_95 (by decide) hF (fun hF => ?_) (fun hF => ?_)
          · refine aw_iinc_2 C dX6_wordHere_104 li_1 rfl rfl ?_
            refine aw_iinc_1 C dX6_wordHere_107 li_1 rfl rfl ?_
            refine aw_goto (tgt := 4) C dX6_wordHere_110 (by decide) ?_
            cases hF
            exact hK
          · refine aw_iinc_2 C dX6_wordHere_98 li_1 rfl rfl ?_
            refine aw_goto (tgt := 87) C dX6_wordHere_101 (by decide) ?_
            cases hF
            exact hK
        · refine aw_aload_0 C dX6_wordHere_68 ?_
          refine aw_getI C dX6_wordHere_69 fX6_228 gX6_13 rfl ?_
          refine aw_iload_3 C dX6_wordHere_72 ?_
          refine aw_iadd C dX6_wordHere_73 ?_
          refine aw_aload_0 C dX6_wordHere_74 ?_
          refine aw_getI C dX6_wordHere_75 fX6_234 gX6_14 rfl ?_
          refine bw_icmp_ne (tgt := 87) C dX6_wordHere_78 (by decide) hF (fun hF => ?_) (fun hF => ?_)
          · refine aw_weak (show aw_le [.ref 71, .int u4.1, .int u4.2, .retAddr 0] [.ref 71, .int u4.1, .int u4.2, .int u15] from ⟨Or.inr rfl, Or.inr rfl, Or.inr rfl, Or.inl rfl, trivial⟩) ?_
            refine aw_loop_rule (fun u87 : Int32 => AW X 4 87 [.ref 71, .int u4.1, .int u87, .retAddr 0] [] wL wR h 0 0) _ (fun u87 y87 hF hK => ?_) n u4.2 _ hF hK
            unfold BX6_wordHere_87'''' at hF
            refine aw_ldcS (i := 6) C dX6_wordHere_87 (by decide) rfl rfl ?_
            refine aw_iload_2 C dX6_wordHere_89 ?_
            obtain ⟨q19, e20, hF⟩ := bw_bind hF
            refine bw_V1i C dX6_wordHere_90 kyJ0_charAt_5068e lX6_249 kiJ0_charAt_5068e kvJ0_charAt_5068e (aw_rvK C rfl rfl) rfl rfl (ctJ0_charAt_5068e 1006 u87 h rfl q19 e20) ?_
            refine aw_bipush C dX6_wordHere_93 lb_32 ?_
            refine bw_icmp_eq (tgt := 104) C dX6_wordHere_95 (by decide) hF (fun hF => ?_) (fun hF => ?_)
            · refine aw_iinc_2 C dX6_wordHere_104 li_1 rfl rfl ?_
              refine aw_iinc_1 C dX6_wordHere_107 li_1 rfl rfl ?_
              refine aw_goto (tgt := 4) C dX6_wordHere_110 (by decide) ?_
              cases hF
              exact hK
            · refine aw_iinc_2 C dX6_wordHere_98 li_1 rfl rfl ?_
              refine aw_goto (tgt := 87) C dX6_wordHere_101 (by decide) ?_
              cases hF
              exact hK
          · refine aw_iload_3 C dX6_wordHere_81 ?_
            refine bw_if_le (tgt := 87) C dX6_wordHere_82 (by decide) hF (fun hF => ?_) (fun hF => ?_)
            · refine aw_weak (show aw_le [.ref 71, .int u4.1, .int u4.2, .retAddr 0] [.ref 71, .int u4.1, .int u4.2, .int u15] from ⟨Or.inr rfl, Or.inr rfl, Or.inr rfl, Or.inl rfl, trivial⟩) ?_
              refine aw_loop_rule (fun u87 : Int32 => AW X 4 87 [.ref 71, .int u4.1, .int u87, .retAddr 0] [] wL wR h 0 0) _ (fun u87 y87 hF hK => ?_) n u4.2 _ hF hK
              unfold BX6_wordHere_87''''' at hF
              refine aw_ldcS (i := 6) C dX6_wordHere_87 (by decide) rfl rfl ?_
              refine aw_iload_2 C dX6_wordHere_89 ?_
              obtain ⟨q21, e22, hF⟩ := bw_bind hF
              refine bw_V1i C dX6_wordHere_90 kyJ0_charAt_5068e lX6_249 kiJ0_charAt_5068e kvJ0_charAt_5068e (aw_rvK C rfl rfl) rfl rfl (ctJ0_charAt_5068e 1006 u87 h rfl q21 e22) ?_
              refine aw_bipush C dX6_wordHere_93 lb_32 ?_
              refine bw_icmp_eq (tgt := 104) C dX6_wordHere_95 (by decide) hF (fun hF => ?_) (fun hF => ?_)
              · refine aw_iinc_2 C dX6_wordHere_104 li_1 rfl rfl ?_
                refine aw_iinc_1 C dX6_wordHere_107 li_1 rfl rfl ?_
                refine aw_goto (tgt := 4) C dX6_wordHere_110 (by decide) ?_
                cases hF
                exact hK
              · refine aw_iinc_2 C dX6_wordHere_98 li_1 rfl rfl ?_
                refine aw_goto (tgt := 87) C dX6_wordHere_101 (by decide) ?_
                cases hF
                exact hK
            · refine aw_iload_1 C dX6_wordHere_85 ?_
              obtain rfl := Option.some.inj hF
              have hK : _ = y := hK
              subst hK
              exact aw_iret C E dX6_wordHere_86 rfl rfl (bw_ret rfl)
      · refine aw_iinc_3 C dX6_wordHere_49 li_1 rfl rfl ?_
        refine aw_goto (tgt := 15) C dX6_wordHere_52 (by decide) ?_
        cases hF
        exact hK
def FX6_manyOf (a1 : Int32) : Int32 :=
  (if a1 = 0 then (4 : Int32) else (if a1 = (1 : Int32) then (3 : Int32) else (if a1 = (2 : Int32) then (1 : Int32) else (2 : Int32))))
set_option maxRecDepth 100000 in
set_option maxHeartbeats 4000000 in
theorem ctX6_manyOf (a1 : Int32) (h : aw_H) (y : Int32) (hF : FX6_manyOf a1 = y) : Ct 0 0 0 yX6_manyOf cX6_manyOf 1 (some .int) [.int a1] wL wR h (aw_D (some (.int y)) h) := by
  refine Ct.of (ls0 := [.int a1]) (by decide +kernel) rfl rfl (fun X C E hnm => ?_)
  have C : aw_C X RX6 cX6_manyOf 1 0 0 0 := C
  unfold FX6_manyOf at hF
  refine aw_iload_0 C dX6_manyOf_0 ?_
  refine bw_if_ne (tgt := 8) C dX6_manyOf_1 (by decide) hF (fun hF => ?_) (fun hF => ?_)
  · refine aw_iload_0 C dX6_manyOf_8 ?_
    refine aw_iconst C dX6_manyOf_9 li_1 ?_
    refine bw_icmp_ne (tgt := 17) C dX6_manyOf_10 (by decide) hF (fun hF => ?_) (fun hF => ?_)
    · refine aw_iload_0 C dX6_manyOf_17 ?_
      refine aw_iconst C dX6_manyOf_18 li_2 ?_
      refine bw_icmp_ne (tgt := 26) C dX6_manyOf_19 (by decide) hF (fun hF => ?_) (fun hF => ?_)
      · refine aw_iconst C dX6_manyOf_26 li_2 ?_
        subst hF
        exact aw_iret C E dX6_manyOf_27 rfl rfl (bw_ret rfl)
      · refine aw_iconst C dX6_manyOf_22 li_1 ?_
        refine aw_goto (tgt := 27) C dX6_manyOf_23 (by decide) ?_
        subst hF
        exact aw_iret C E dX6_manyOf_27 rfl rfl (bw_ret rfl)
    · refine aw_iconst C dX6_manyOf_13 li_3 ?_
      refine aw_goto (tgt := 27) C dX6_manyOf_14 (by decide) ?_
      subst hF
      exact aw_iret C E dX6_manyOf_27 rfl rfl (bw_ret rfl)
  · refine aw_iconst C dX6_manyOf_4 li_4 ?_
    refine aw_goto (tgt := 27) C dX6_manyOf_5 (by decide) ?_
    subst hF
    exact aw_iret C E dX6_manyOf_27 rfl rfl (bw_ret rfl)
def BX6_numberHere_36 (h : aw_H) (u36 : (Int32 × Int32)) : Option ((Int32 × Int32) ⊕ Int32) :=
  (if (h.1 71 14) ≤ u36.2 then some (Sum.inr u36.1) else ((FX6_byteAt u36.2 h).bind (fun q3 => some (Sum.inl (((((10 : Int32) * u36.1) + q3) - (48 : Int32)), (u36.2 + (1 : Int32)))))))
def FX6_numberHere (n : Nat) (h : aw_H) : Option (Int32) :=
  ((FX6_byteAt (h.1 71 13) h).bind (fun q1 => (if (FX6_isDigit q1) = 0 then some (-1 : Int32) else (if ((h.1 71 14) - (h.1 71 13)) ≤ (4 : Int32) then aw_loop (BX6_numberHere_36 h) n ((0 : Int32), (h.1 71 13)) else some (-1 : Int32)))))
set_option maxRecDepth 100000 in
set_option maxHeartbeats 4000000 in
theorem ctX6_numberHere (n : Nat) (h : aw_H) (y : Int32) (hF : FX6_numberHere n h = some y) : Ct 1 0 0 yX6_numberHere cX6_numberHere 3 (some .int) [.ref 71] wL wR h (aw_D (some (.int y)) h) := by
  refine Ct.of (ls0 := [.ref 71, .retAddr 0, .retAddr 0]) (by decide +kernel) rfl rfl (fun X C E hnm => ?_)
  have C : aw_C X RX6 cX6_numberHere 3 1 0 0 := C
  unfold FX6_numberHere at hF
  refine aw_aload_0 C dX6_numberHere_0 ?_
  refine aw_aload_0 C dX6_numberHere_1 ?_
  refine aw_getI C dX6_numberHere_2 fX6_228 gX6_13 rfl ?_
  obtain ⟨q1, e2, hF⟩ := bw_bind hF
  refine bw_V1i C dX6_numberHere_5 kyX6_byteAt lX6_231 kiX6_byteAt kvX6_byteAt (aw_rv C rfl rfl) rfl rfl (ctX6_byteAt (h.1 71 13) h q1 e2) ?_
  refine bw_S1i C dX6_numberHere_8 kyX6_isDigit lX6_240 ksX6_isDigit rfl rfl (ctX6_isDigit q1 h _ rfl) ?_
  refine bw_if_eq (tgt := 27) C dX6_numberHere_11 (by decide) hF (fun hF => ?_) (fun hF => ?_)
  · refine aw_iconst C dX6_numberHere_27 li_m1 ?_
    obtain rfl := Option.some.inj hF
    exact aw_iret C E dX6_numberHere_28 rfl rfl (bw_ret rfl)
  · refine aw_aload_0 C dX6_numberHere_14 ?_
    refine aw_getI C dX6_numberHere_15 fX6_234 gX6_14 rfl ?_
    refine aw_aload_0 C dX6_numberHere_18 ?_
    refine aw_getI C dX6_numberHere_19 fX6_228 gX6_13 rfl ?_
    refine aw_isub C dX6_numberHere_22 ?_
    refine aw_iconst C dX6_numberHere_23 li_4 ?_
    refine bw_icmp_le (tgt := 29) C dX6_numberHere_24 (by decide) hF (fun hF => ?_) (fun hF => ?_)
    · refine aw_iconst C dX6_numberHere_29 li_0 ?_
      refine aw_istore_1 C dX6_numberHere_30 rfl rfl ?_
      refine aw_aload_0 C dX6_numberHere_31 ?_
      refine aw_getI C dX6_numberHere_32 fX6_228 gX6_13 rfl ?_
      refine aw_istore_2 C dX6_numberHere_35 rfl rfl ?_
      refine aw_loop_rule (fun u36 : (Int32 × Int32) => AW X 3 36 [.ref 71, .int u36.1, .int u36.2] [] wL wR h 0 0) (fun q => q = y) (fun u36 y36 hF hK => ?_) n ((0 : Int32), (h.1 71 13)) _ hF rfl
      unfold BX6_numberHere_36 at hF
      refine aw_iload_2 C dX6_numberHere_36 ?_
      refine aw_aload_0 C dX6_numberHere_37 ?_
      refine aw_getI C dX6_numberHere_38 fX6_234 gX6_14 rfl ?_
      refine bw_icmp_ge (tgt := 64) C dX6_numberHere_41 (by decide) hF (fun hF => ?_) (fun hF => ?_)
      · refine aw_iload_1 C dX6_numberHere_64 ?_
        obtain rfl := Option.some.inj hF
        have hK : _ = y := hK
        subst hK
        exact aw_iret C E dX6_numberHere_65 rfl rfl (bw_ret rfl)
      · refine aw_bipush C dX6_numberHere_44 lb_10 ?_
        refine aw_iload_1 C dX6_numberHere_46 ?_
        refine aw_imul C dX6_numberHere_47 ?_
        refine aw_aload_0 C dX6_numberHere_48 ?_
        refine aw_iload_2 C dX6_numberHere_49 ?_
        obtain ⟨q3, e4, hF⟩ := bw_bind hF
        refine bw_V1i C dX6_numberHere_50 kyX6_byteAt lX6_231 kiX6_byteAt kvX6_byteAt (aw_rv C rfl rfl) rfl rfl (ctX6_byteAt u36.2 h q3 e4) ?_
        refine aw_iadd C dX6_numberHere_53 ?_
        refine aw_bipush C dX6_numberHere_54 lb_48 ?_
        refine aw_isub C dX6_numberHere_56 ?_
        refine aw_istore_1 C dX6_numberHere_57 rfl rfl ?_
        refine aw_iinc_2 C dX6_numberHere_58 li_1 rfl rfl ?_
        refine aw_goto (tgt := 36) C dX6_numberHere_61 (by decide) ?_
        cases hF
        exact hK
    · refine aw_iconst C dX6_numberHere_27 li_m1 ?_
      obtain rfl := Option.some.inj hF
      exact aw_iret C E dX6_numberHere_28 rfl rfl (bw_ret rfl)
def BX6_clause_26 (n : Nat) (q3 : Int32) (u26 : (Int32 × aw_H)) : Option ((Int32 × aw_H) ⊕ (Int32 × aw_H)) :=
  (if (FX6_manyOf q3) ≤ u26.1 then ((FX6_skips n u26.2).bind (fun q5 => some (Sum.inr (q3, q5)))) else ((FX6_skips n u26.2).bind (fun q7 => ((FX6_numberHere n q7).bind (fun q9 => (if aw_inb u26.1 4 = true then (if aw_inb u26.1 4 = true then (if ((aw_sI q7 80 (u26.1).toNatClampNeg q9).1 80 (u26.1).toNatClampNeg) = (-1 : Int32) then some (Sum.inr ((-1 : Int32), (aw_sI q7 80 (u26.1).toNatClampNeg q9))) else some (Sum.inl ((u26.1 + (1 : Int32)), (aw_sI (aw_sI q7 80 (u26.1).toNatClampNeg q9) 71 13 ((aw_sI q7 80 (u26.1).toNatClampNeg q9).1 71 14))))) else none) else none))))))
def FX6_clause (n : Nat) (h : aw_H) : Option (Int32 × aw_H) :=
  ((FX6_skips n h).bind (fun q1 => ((FX6_wordHere n q1).bind (fun q3 => (if q3 = (-1 : Int32) then some ((-1 : Int32), q1) else aw_loop (BX6_clause_26 n q3) n ((0 : Int32), (aw_sI q1 71 13 (q1.1 71 14))))))))
set_option maxRecDepth 100000 in
set_option maxHeartbeats 4000000 in
theorem ctX6_clause (n : Nat) (h : aw_H) (y : Int32 × aw_H) (hF : FX6_clause n h = some y) : Ct 5 0 0 yX6_clause cX6_clause 3 (some .int) [.ref 71] wL wR h (aw_D (some (.int y.1)) y.2) := by
  refine Ct.of (ls0 := [.ref 71, .retAddr 0, .retAddr 0]) (by decide +kernel) rfl rfl (fun X C E hnm => ?_)
  have C : aw_C X RX6 cX6_clause 3 5 0 0 := C
  unfold FX6_clause at hF
  refine aw_aload_0 C dX6_clause_0 ?_
  obtain ⟨q1, e2, hF⟩ := bw_bind hF
  refine bw_V0v C dX6_clause_1 kyX6_skips lX6_253 kiX6_skips kvX6_skips (aw_rv C rfl rfl) rfl rfl (ctX6_skips n h q1 e2) ?_
  refine aw_aload_0 C dX6_clause_4 ?_
  obtain ⟨q3, e4, hF⟩ := bw_bind hF
  refine bw_V0i C dX6_clause_5 kyX6_wordHere lX6_256 kiX6_wordHere kvX6_wordHere (aw_rv C rfl rfl) rfl rfl (ctX6_wordHere n q1 q3 e4) ?_
  refine aw_istore_1 C dX6_clause_8 rfl rfl ?_
  refine aw_iload_1 C dX6_clause_9 ?_
  refine aw_iconst C dX6_clause_10 li_m1 ?_
  refine bw_icmp_ne (tgt := 16) C dX6_clause_11 (by decide) hF (fun hF => ?_) (fun hF => ?_)
  · refine aw_aload_0 C dX6_clause_16 ?_
    refine aw_aload_0 C dX6_clause_17 ?_
    refine aw_getI C dX6_clause_18 fX6_234 gX6_14 rfl ?_
    refine aw_putI C dX6_clause_21 fX6_228 gX6_13 rfl ?_
    refine aw_iconst C dX6_clause_24 li_0 ?_
    refine aw_istore_2 C dX6_clause_25 rfl rfl ?_
    refine aw_loop_rule (fun u26 : (Int32 × aw_H) => AW X 3 26 [.ref 71, .int q3, .int u26.1] [] wL wR u26.2 0 0) (fun q => q = y) (fun u26 y26 hF hK => ?_) n ((0 : Int32), (aw_sI q1 71 13 (q1.1 71 14))) _ hF rfl
    unfold BX6_clause_26 at hF
    refine aw_iload_2 C dX6_clause_26 ?_
    refine aw_iload_1 C dX6_clause_27 ?_
    refine bw_S1i C dX6_clause_28 kyX6_manyOf lX6_259 ksX6_manyOf rfl rfl (ctX6_manyOf q3 u26.2 _ rfl) ?_
    refine bw_icmp_ge (tgt := 74) C dX6_clause_31 (by decide) hF (fun hF => ?_) (fun hF => ?_)
    · refine aw_aload_0 C dX6_clause_74 ?_
      obtain ⟨q5, e6, hF⟩ := bw_bind hF
      refine bw_V0v C dX6_clause_75 kyX6_skips lX6_253 kiX6_skips kvX6_skips (aw_rv C rfl rfl) rfl rfl (ctX6_skips n u26.2 q5 e6) ?_
      refine aw_iload_1 C dX6_clause_78 ?_
      obtain rfl := Option.some.inj hF
      have hK : _ = y := hK
      subst hK
      exact aw_iret C E dX6_clause_79 rfl rfl (bw_ret rfl)
    · refine aw_aload_0 C dX6_clause_34 ?_
      obtain ⟨q7, e8, hF⟩ := bw_bind hF
      refine bw_V0v C dX6_clause_35 kyX6_skips lX6_253 kiX6_skips kvX6_skips (aw_rv C rfl rfl) rfl rfl (ctX6_skips n u26.2 q7 e8) ?_
      refine aw_aload_0 C dX6_clause_38 ?_
      refine aw_getR C dX6_clause_39 fX6_37 gX6_15 rfl rfl ?_
      refine aw_iload_2 C dX6_clause_42 ?_
      refine aw_aload_0 C dX6_clause_43 ?_
      obtain ⟨q9, e10, hF⟩ := bw_bind hF
      refine bw_V0i C dX6_clause_44 kyX6_numberHere lX6_262 kiX6_numberHere kvX6_numberHere (aw_rv C rfl rfl) rfl rfl (ctX6_numberHere n q7 q9 e10) ?_
      obtain ⟨s11, hF⟩ := bw_side hF
      refine aw_iast C dX6_clause_47 rfl (aw_ix s11) ?_
      refine aw_aload_0 C dX6_clause_48 ?_
      refine aw_getR C dX6_clause_49 fX6_37 gX6_15 rfl rfl ?_
      refine aw_iload_2 C dX6_clause_52 ?_
      obtain ⟨s12, hF⟩ := bw_side hF
      refine aw_iald C dX6_clause_53 rfl (aw_ix s12) ?_
      refine aw_iconst C dX6_clause_54 li_m1 ?_
      refine bw_icmp_ne (tgt := 60) C dX6_clause_55 (by decide) hF (fun hF => ?_) (fun hF => ?_)
      · refine aw_aload_0 C dX6_clause_60 ?_
        refine aw_aload_0 C dX6_clause_61 ?_
        refine aw_getI C dX6_clause_62 fX6_234 gX6_14 rfl ?_
        refine aw_putI C dX6_clause_65 fX6_228 gX6_13 rfl ?_
        refine aw_iinc_2 C dX6_clause_68 li_1 rfl rfl ?_
        refine aw_goto (tgt := 26) C dX6_clause_71 (by decide) ?_
        cases hF
        exact hK
      · refine aw_iconst C dX6_clause_58 li_m1 ?_
        obtain rfl := Option.some.inj hF
        have hK : _ = y := hK
        subst hK
        exact aw_iret C E dX6_clause_59 rfl rfl (bw_ret rfl)
  · refine aw_iconst C dX6_clause_14 li_m1 ?_
    obtain rfl := Option.some.inj hF
    exact aw_iret C E dX6_clause_15 rfl rfl (bw_ret rfl)
def FX6_isDone (a1 : Int32) (h : aw_H) : Option (Int32 × aw_H) :=
  (if a1 = (0 : Int32) then ((FX6_part (h.1 80 0) (h.1 80 1) (h.1 80 2) (h.1 80 3) h).bind (fun q1 => (if q1.1 < 0 then some ((0 : Int32), q1.2) else some ((1 : Int32), q1.2)))) else (if a1 = (1 : Int32) then ((FX6_gear (h.1 80 0) (h.1 80 1) (h.1 80 2) h).bind (fun q4 => (if q4.1 < 0 then some ((0 : Int32), q4.2) else some ((1 : Int32), q4.2)))) else (if a1 = (2 : Int32) then ((FX6_shaft (h.1 80 0) h).bind (fun q7 => (if q7.1 < 0 then some ((0 : Int32), q7.2) else some ((1 : Int32), q7.2)))) else (if a1 = (3 : Int32) then ((FX6_set (h.1 80 0) (2 : Int32) (h.1 80 1) h).bind (fun q10 => (if q10.1 < 0 then some ((0 : Int32), q10.2) else some ((1 : Int32), q10.2)))) else ((FX6_set (h.1 80 0) (1 : Int32) (h.1 80 1) h).bind (fun q13 => (if q13.1 < 0 then some ((0 : Int32), q13.2) else some ((1 : Int32), q13.2))))))))
set_option maxRecDepth 100000 in
set_option maxHeartbeats 4000000 in
theorem ctX6_isDone (a1 : Int32) (h : aw_H) (y : Int32 × aw_H) (hF : FX6_isDone a1 h = some y) : Ct 4 0 0 yX6_isDone cX6_isDone 4 (some .boolean) [.ref 71, .int a1] wL wR h (aw_D (some (.int y.1)) y.2) := by
  refine Ct.of (ls0 := [.ref 71, .int a1, .retAddr 0, .retAddr 0]) (by decide +kernel) rfl rfl (fun X C E hnm => ?_)
  have C : aw_C X RX6 cX6_isDone 4 4 0 0 := C
  unfold FX6_isDone at hF
  refine aw_aload_0 C dX6_isDone_0 ?_
  refine aw_getR C dX6_isDone_1 fX6_37 gX6_15 rfl rfl ?_
  refine aw_iconst C dX6_isDone_4 li_0 ?_
  refine aw_iald C dX6_isDone_5 rfl (aw_ixk (k := 0) (n := 4) rfl rfl) ?_
  refine aw_istore_2 C dX6_isDone_6 rfl rfl ?_
  refine aw_aload_0 C dX6_isDone_7 ?_
  refine aw_getR C dX6_isDone_8 fX6_37 gX6_15 rfl rfl ?_
  refine aw_iconst C dX6_isDone_11 li_1 ?_
  refine aw_iald C dX6_isDone_12 rfl (aw_ixk (k := 1) (n := 4) rfl rfl) ?_
  refine aw_istore_3 C dX6_isDone_13 rfl rfl ?_
  refine aw_iload_1 C dX6_isDone_14 ?_
  rcases Decidable.em (a1 = (0 : Int32)) with c3 | c3
  · rw [if_pos c3] at hF
    refine aw_tabIn (off := 29) (tgt := 44) C dX6_isDone_15 (by rw [c3]; decide) (by rw [c3]; decide) (by rw [c3]; rfl) (by decide) ?_
    refine aw_aload_0 C dX6_isDone_44 ?_
    refine aw_iload_2 C dX6_isDone_45 ?_
    refine aw_iload_3 C dX6_isDone_46 ?_
    refine aw_aload_0 C dX6_isDone_47 ?_
    refine aw_getR C dX6_isDone_48 fX6_37 gX6_15 rfl rfl ?_
    refine aw_iconst C dX6_isDone_51 li_2 ?_
    refine aw_iald C dX6_isDone_52 rfl (aw_ixk (k := 2) (n := 4) rfl rfl) ?_
    refine aw_aload_0 C dX6_isDone_53 ?_
    refine aw_getR C dX6_isDone_54 fX6_37 gX6_15 rfl rfl ?_
    refine aw_iconst C dX6_isDone_57 li_3 ?_
    refine aw_iald C dX6_isDone_58 rfl (aw_ixk (k := 3) (n := 4) rfl rfl) ?_
    obtain ⟨q1, e2, hF⟩ := bw_bind hF
    refine bw_V4i C dX6_isDone_59 kyX6_part lX6_265 kiX6_part kvX6_part (aw_rv C rfl rfl) rfl rfl (ctX6_part (h.1 80 0) (h.1 80 1) (h.1 80 2) (h.1 80 3) h q1 e2) ?_
    refine bw_if_lt (tgt := 69) C dX6_isDone_62 (by decide) hF (fun hF => ?_) (fun hF => ?_)
    · refine aw_iconst C dX6_isDone_69 li_0 ?_
      obtain rfl := Option.some.inj hF
      exact aw_zret C E rfl dX6_isDone_70 rfl rfl (bw_ret rfl)
    · refine aw_iconst C dX6_isDone_65 li_1 ?_
      refine aw_goto (tgt := 70) C dX6_isDone_66 (by decide) ?_
      obtain rfl := Option.some.inj hF
      exact aw_zret C E rfl dX6_isDone_70 rfl rfl (bw_ret rfl)
  rw [if_neg c3] at hF
  rcases Decidable.em (a1 = (1 : Int32)) with c6 | c6
  · rw [if_pos c6] at hF
    refine aw_tabIn (off := 56) (tgt := 71) C dX6_isDone_15 (by rw [c6]; decide) (by rw [c6]; decide) (by rw [c6]; rfl) (by decide) ?_
    refine aw_aload_0 C dX6_isDone_71 ?_
    refine aw_iload_2 C dX6_isDone_72 ?_
    refine aw_iload_3 C dX6_isDone_73 ?_
    refine aw_aload_0 C dX6_isDone_74 ?_
    refine aw_getR C dX6_isDone_75 fX6_37 gX6_15 rfl rfl ?_
    refine aw_iconst C dX6_isDone_78 li_2 ?_
    refine aw_iald C dX6_isDone_79 rfl (aw_ixk (k := 2) (n := 4) rfl rfl) ?_
    obtain ⟨q4, e5, hF⟩ := bw_bind hF
    refine bw_V3i C dX6_isDone_80 kyX6_gear lX6_268 kiX6_gear kvX6_gear (aw_rv C rfl rfl) rfl rfl (ctX6_gear (h.1 80 0) (h.1 80 1) (h.1 80 2) h q4 e5) ?_
    refine bw_if_lt (tgt := 90) C dX6_isDone_83 (by decide) hF (fun hF => ?_) (fun hF => ?_)
    · refine aw_iconst C dX6_isDone_90 li_0 ?_
      obtain rfl := Option.some.inj hF
      exact aw_zret C E rfl dX6_isDone_91 rfl rfl (bw_ret rfl)
    · refine aw_iconst C dX6_isDone_86 li_1 ?_
      refine aw_goto (tgt := 91) C dX6_isDone_87 (by decide) ?_
      obtain rfl := Option.some.inj hF
      exact aw_zret C E rfl dX6_isDone_91 rfl rfl (bw_ret rfl)
  rw [if_neg c6] at hF
  rcases Decidable.em (a1 = (2 : Int32)) with c9 | c9
  · rw [if_pos c9] at hF
    refine aw_tabIn (off := 77) (tgt := 92) C dX6_isDone_15 (by rw [c9]; decide) (by rw [c9]; decide) (by rw [c9]; rfl) (by decide) ?_
    refine aw_aload_0 C dX6_isDone_92 ?_
    refine aw_iload_2 C dX6_isDone_93 ?_
    obtain ⟨q7, e8, hF⟩ := bw_bind hF
    refine bw_V1i C dX6_isDone_94 kyX6_shaft lX6_271 kiX6_shaft kvX6_shaft (aw_rv C rfl rfl) rfl rfl (ctX6_shaft (h.1 80 0) h q7 e8) ?_
    refine bw_if_lt (tgt := 104) C dX6_isDone_97 (by decide) hF (fun hF => ?_) (fun hF => ?_)
    · refine aw_iconst C dX6_isDone_104 li_0 ?_
      obtain rfl := Option.some.inj hF
      exact aw_zret C E rfl dX6_isDone_105 rfl rfl (bw_ret rfl)
    · refine aw_iconst C dX6_isDone_100 li_1 ?_
      refine aw_goto (tgt := 105) C dX6_isDone_101 (by decide) ?_
      obtain rfl := Option.some.inj hF
      exact aw_zret C E rfl dX6_isDone_105 rfl rfl (bw_ret rfl)
  rw [if_neg c9] at hF
  rcases Decidable.em (a1 = (3 : Int32)) with c12 | c12
  · rw [if_pos c12] at hF
    refine aw_tabIn (off := 91) (tgt := 106) C dX6_isDone_15 (by rw [c12]; decide) (by rw [c12]; decide) (by rw [c12]; rfl) (by decide) ?_
    refine aw_aload_0 C dX6_isDone_106 ?_
    refine aw_iload_2 C dX6_isDone_107 ?_
    refine aw_iconst C dX6_isDone_108 li_2 ?_
    refine aw_iload_3 C dX6_isDone_109 ?_
    obtain ⟨q10, e11, hF⟩ := bw_bind hF
    refine bw_V3i C dX6_isDone_110 kyX6_set lX6_274 kiX6_set kvX6_set (aw_rv C rfl rfl) rfl rfl (ctX6_set (h.1 80 0) (2 : Int32) (h.1 80 1) h q10 e11) ?_
    refine bw_if_lt (tgt := 120) C dX6_isDone_113 (by decide) hF (fun hF => ?_) (fun hF => ?_)
    · refine aw_iconst C dX6_isDone_120 li_0 ?_
      obtain rfl := Option.some.inj hF
      exact aw_zret C E rfl dX6_isDone_121 rfl rfl (bw_ret rfl)
    · refine aw_iconst C dX6_isDone_116 li_1 ?_
      refine aw_goto (tgt := 121) C dX6_isDone_117 (by decide) ?_
      obtain rfl := Option.some.inj hF
      exact aw_zret C E rfl dX6_isDone_121 rfl rfl (bw_ret rfl)
  rw [if_neg c12] at hF
  refine aw_tabOut (tgt := 122) C dX6_isDone_15 (by
      have zc3 := bw_lit (z := 0) (by decide) c3
      have zc6 := bw_lit (z := 1) (by decide) c6
      have zc9 := bw_lit (z := 2) (by decide) c9
      have zc12 := bw_lit (z := 3) (by decide) c12
      omega) (by decide) ?_
  refine aw_aload_0 C dX6_isDone_122 ?_
  refine aw_iload_2 C dX6_isDone_123 ?_
  refine aw_iconst C dX6_isDone_124 li_1 ?_
  refine aw_iload_3 C dX6_isDone_125 ?_
  obtain ⟨q13, e14, hF⟩ := bw_bind hF
  refine bw_V3i C dX6_isDone_126 kyX6_set lX6_274 kiX6_set kvX6_set (aw_rv C rfl rfl) rfl rfl (ctX6_set (h.1 80 0) (1 : Int32) (h.1 80 1) h q13 e14) ?_
  refine bw_if_lt (tgt := 136) C dX6_isDone_129 (by decide) hF (fun hF => ?_) (fun hF => ?_)
  · refine aw_iconst C dX6_isDone_136 li_0 ?_
    obtain rfl := Option.some.inj hF
    exact aw_zret C E rfl dX6_isDone_137 rfl rfl (bw_ret rfl)
  · refine aw_iconst C dX6_isDone_132 li_1 ?_
    refine aw_goto (tgt := 137) C dX6_isDone_133 (by decide) ?_
    obtain rfl := Option.some.inj hF
    exact aw_zret C E rfl dX6_isDone_137 rfl rfl (bw_ret rfl)

theorem bw_nz {α : Type} {c : Prop} {i : Decidable c} {a : Option α} {y : α} (h : (@ite _ c i none a) = some y) : ¬ c ∧ a = some y := by
  by_cases hc : c
  · rw [if_pos hc] at h; cases h
  · rw [if_neg hc] at h; exact ⟨hc, h⟩
theorem aw_nz {v : Int32} (h : v = 0 ∨ v = 1) : narrow .boolean (.int v) = .int v := by
  rcases h with rfl | rfl <;> rfl
def aw_isB (v : Int32) : Bool := v == 0 || v == 1
theorem aw_nb {v : Int32} (h : aw_isB v = true) : narrow .boolean (.int v) = .int v := aw_nz (by simpa [aw_isB] using h)
/-- System.arraycopy keeps within -/
def aw_cpok (sp dp n : Int32) (n0 n1 : Nat) : Bool := !decide (sp < 0) && (!decide (dp < 0) && (!decide (n < 0) && (decide (sp.toNatClampNeg + n.toNatClampNeg ≤ n0) && decide (dp.toNatClampNeg + n.toNatClampNeg ≤ n1))))
section BWS
variable {X : aw_X} {own : String} {cc : ByteArray} {nL D mc ms pc : Nat} {ls st : List Value} {L : aw_L} {r : aw_R} {h : aw_H} {ca sa ix : Nat}
theorem bw_copy_int {a b n0 n1 : Nat} {sp dp n : Int32} (C : aw_C X own cc nL D mc ms) (hd : decode cc pc = .ok (.invokestatic ix, 3)) (hl : Cond.methodLink own ix arraycopyName ∈ BG) (hD : Nat.ble 1 D = true) (hw : Nat.ble (st.map fun v => v.category).sum 8 = true) (ha : L[a]? = some (1, n0)) (hb : L[b]? = some (1, n1)) (hk : aw_cpok sp dp n n0 n1 = true)
    (kk : AW X nL (pc + 3) ls st L r (aw_cI h a b sp.toNatClampNeg dp.toNatClampNeg n.toNatClampNeg) ca sa) : AW X nL pc ls (.int n :: .int dp :: .ref b :: .int sp :: .ref a :: st) L r h ca sa := by
  simp only [aw_cpok, Bool.and_eq_true, Bool.not_eq_true', decide_eq_true_eq, decide_eq_false_iff_not] at hk
  exact aw_copy_int C hd hl kx_ac.1 kx_ac.2 knJ10 hD hw ha hb hk.1 hk.2.1 hk.2.2.1 hk.2.2.2.1 hk.2.2.2.2 kk
theorem bw_copy_long {a b n0 n1 : Nat} {sp dp n : Int32} (C : aw_C X own cc nL D mc ms) (hd : decode cc pc = .ok (.invokestatic ix, 3)) (hl : Cond.methodLink own ix arraycopyName ∈ BG) (hD : Nat.ble 1 D = true) (hw : Nat.ble (st.map fun v => v.category).sum 8 = true) (ha : L[a]? = some (2, n0)) (hb : L[b]? = some (2, n1)) (hk : aw_cpok sp dp n n0 n1 = true)
    (kk : AW X nL (pc + 3) ls st L r (aw_cL h a b sp.toNatClampNeg dp.toNatClampNeg n.toNatClampNeg) ca sa) : AW X nL pc ls (.int n :: .int dp :: .ref b :: .int sp :: .ref a :: st) L r h ca sa := by
  simp only [aw_cpok, Bool.and_eq_true, Bool.not_eq_true', decide_eq_true_eq, decide_eq_false_iff_not] at hk
  exact aw_copy_long C hd hl kx_ac.1 kx_ac.2 knJ10 hD hw ha hb hk.1 hk.2.1 hk.2.2.1 hk.2.2.2.1 hk.2.2.2.2 kk
theorem aw_rvK {c : Nat} {y : MethodName} (C : aw_C X own cc nL D mc ms) (hk : aw_isK c = true) (hy : y.cls = RJ0) : aw_Rv X y L r h c := by
  obtain ⟨i, hi, rfl⟩ := aw_k1 hk
  exact aw_rvS C hi hy
theorem aw_ldcwS {i : Nat} (C : aw_C X own cc nL D mc ms) (hd : decode cc pc = .ok (.ldc_w ix, 3)) (hi : i < 7) (h1 : aw_so i = own) (h2 : aw_si i = ix) (kk : AW X nL (pc + 3) ls (.ref (1000 + i) :: st) L r h ca sa) : AW X nL pc ls st L r h ca sa := by
  intro H locs la hW hn hS hL
  have hz := C.k.2.2.2.2 i hi
  rw [h1, h2] at hz
  obtain ⟨k, cf, i2, a', hk, hcf, hcp, -, hr, hev'⟩ := Cond.stringRef_spec C.o hz.1
  cases hz.2.symm.trans hev'
  intro T hT XX
  obtain ⟨t, a1, b1⟩ := kk H locs la hW hn hS hL T hT XX
  obtain ⟨k', hk', he⟩ := XX.warmed.alike.2.2 _ _ hk
  have hr' : k'.resolved[ix]? = some (some (.string ((xg X).2.2.1 (1000 + i)))) := by
    rcases XX.warmed.entry hk hk' ix with h | ⟨h, -⟩
    · rw [h]; exact hr
    · rw [hr] at h; cases h
  refine ⟨t, ?_, b1⟩
  have hd' : decode (xc X).code pc = .ok (.ldc_w ix, 3) := by rw [C.b]; exact hd
  jvm_step XX.here [C.x, hd', ldc_w.wp_string (e := xe X) (s := T) (f := F0 (xm X) pc la (st.map (aw_tv (xd X)))) XX.here.top hk' (by rw [he]; exact hcf) hcp hr']
  exact a1
end BWS
/-! the JDK's Math -/
theorem kx_max : Cond.code Lib.Math.max.name Lib.Math.max.code 2 (some .int) ∈ BG := bg_of (i := 322) (by decide +kernel) rfl
theorem kx_min : Cond.code Lib.Math.min.name Lib.Math.min.code 2 (some .int) ∈ BG := bg_of (i := 363) (by decide +kernel) rfl
theorem kx_abs : Cond.code Lib.MathLoose.abs_long.x Lib.MathLoose.abs_long.code 2 (some .long) ∈ BG := bg_of (i := 245) (by decide +kernel) rfl
def FJ9_max_7cf53 (a1 a2 : Int32) : Int32 := if a1 < a2 then a2 else a1
def FJ9_min_7cf53 (a1 a2 : Int32) : Int32 := if a2 < a1 then a2 else a1
def FJ9_abs_067f4 (a1 : Int64) : Int64 := if 0 < a1 then a1 else -a1
section BWJ
variable {X : aw_X} {own : String} {cc : ByteArray} {nL D mc ms pc : Nat} {ls st : List Value} {L : aw_L} {r : aw_R} {h : aw_H} {ix : Nat}
theorem bw_max {x y : Int32} (C : aw_C X own cc nL D mc ms) (hd : decode cc pc = .ok (.invokestatic ix, 3)) (hl : Cond.methodLink own ix yJ9_max_7cf53 ∈ BG) (hD : Nat.ble 1 D = true) (hw : Nat.ble (st.map fun v => v.category).sum 8 = true) (kk : AW X nL (pc + 3) ls (.int (FJ9_max_7cf53 x y) :: st) L r h 0 0) : AW X nL pc ls (.int y :: .int x :: st) L r h 0 0 := by
  intro H locs la hW hn hS hL
  obtain ⟨hRf, hRl, -, -⟩ := C.2.2.2.2.2.2.2
  have hD := Nat.le_of_ble_eq_true hD
  have hw := Nat.le_of_ble_eq_true hw
  exact va_mmax C.x C.b (by rw [C.l]; exact hL.1.symm) C.o (C.w _ hl) (C.w _ ksJ9_max_7cf53) (C.w _ knJ9) (C.w _ kx_max) (by omega) (by rw [aw_cats]; omega) (Nat.zero_le _) (Nat.zero_le _) hd (kk H locs la hW hn hS hL)
theorem bw_min {x y : Int32} (C : aw_C X own cc nL D mc ms) (hd : decode cc pc = .ok (.invokestatic ix, 3)) (hl : Cond.methodLink own ix yJ9_min_7cf53 ∈ BG) (hD : Nat.ble 1 D = true) (hw : Nat.ble (st.map fun v => v.category).sum 8 = true) (kk : AW X nL (pc + 3) ls (.int (FJ9_min_7cf53 x y) :: st) L r h 0 0) : AW X nL pc ls (.int y :: .int x :: st) L r h 0 0 := by
  intro H locs la hW hn hS hL
  obtain ⟨hRf, hRl, -, -⟩ := C.2.2.2.2.2.2.2
  have hD := Nat.le_of_ble_eq_true hD
  have hw := Nat.le_of_ble_eq_true hw
  exact va_mmin C.x C.b (by rw [C.l]; exact hL.1.symm) C.o (C.w _ hl) (C.w _ ksJ9_min_7cf53) (C.w _ knJ9) (C.w _ kx_min) (by omega) (by rw [aw_cats]; omega) (Nat.zero_le _) (Nat.zero_le _) hd (kk H locs la hW hn hS hL)
theorem bw_abs {x : Int64} (C : aw_C X own cc nL D mc ms) (hd : decode cc pc = .ok (.invokestatic ix, 3)) (hl : Cond.methodLink own ix yJ9_abs_067f4 ∈ BG) (hD : Nat.ble 1 D = true) (hw : Nat.ble (st.map fun v => v.category).sum 8 = true) (kk : AW X nL (pc + 3) ls (.long (FJ9_abs_067f4 x) :: st) L r h 0 0) : AW X nL pc ls (.long x :: st) L r h 0 0 := by
  intro H locs la hW hn hS hL
  obtain ⟨hRf, hRl, -, -⟩ := C.2.2.2.2.2.2.2
  have hD := Nat.le_of_ble_eq_true hD
  have hw := Nat.le_of_ble_eq_true hw
  exact va_mabs_long C.x C.b (by rw [C.l]; exact hL.1.symm) C.o (C.w _ hl) (C.w _ ksJ9_abs_067f4) (C.w _ knJ9) (C.w _ kx_abs) (by omega) (by rw [aw_cats]; omega) (Nat.zero_le _) (Nat.zero_le _) hd (kk H locs la hW hn hS hL)
end BWJ
/-! the JDK's length() and charAt(k) over the text constants -/
theorem ctJ0_coder {i : Nat} (hi : i < 7) (h : aw_H) : Ct 0 0 0 yJ0_coder_7d493 cJ0_coder_7d493 1 (some .byte) [.ref (1000 + i)] wL wR h (aw_D (some (.int 0)) h) := by
  refine Ct.of (ls0 := [.ref (1000 + i)]) (by decide +kernel) rfl rfl (fun X C E hnm => ?_)
  have C : aw_C X RJ0 cJ0_coder_7d493 1 0 0 0 := C
  refine aw_getcs C dJ0_coder_7d493_0 fJ0_38 ?_
  refine aw_if_eq (tgt := 13) C dJ0_coder_7d493_3 (by decide) (fun q => absurd q (by decide)) (fun _ => ?_)
  refine aw_aload_0 C dJ0_coder_7d493_6 ?_
  refine aw_skc C dJ0_coder_7d493_7 hi fJ0_15 ?_
  refine aw_goto (tgt := 14) C dJ0_coder_7d493_10 (by decide) ?_
  exact aw_zret C E rfl dJ0_coder_7d493_14 rfl rfl (bw_ret rfl)
def FJ0_length_8abf5 (a0 : Nat) : Int32 := Int32.ofNat (aw_sl.getD (a0 - 1000) 0) >>> ((0 : Int32) &&& 31)
theorem ctJ0_length_8abf5 (a0 : Nat) (h : aw_H) (f0 : aw_isK a0 = true) (y : Int32) (hF : FJ0_length_8abf5 a0 = y) : Ct 1 0 0 yJ0_length_8abf5 cJ0_length_8abf5 1 (some .int) [.ref a0] wL wR h (aw_D (some (.int y)) h) := by
  obtain ⟨i, hi, rfl⟩ := aw_k1 f0
  subst hF
  refine Ct.of (ls0 := [.ref (1000 + i)]) (by decide +kernel) rfl rfl (fun X C E hnm => ?_)
  have C : aw_C X RJ0 cJ0_length_8abf5 1 1 0 0 := C
  refine aw_aload_0 C dJ0_length_8abf5_0 ?_
  refine aw_skv C dJ0_length_8abf5_1 hi fJ0_9 ?_
  refine aw_skl C dJ0_length_8abf5_4 hi ?_
  refine aw_aload_0 C dJ0_length_8abf5_5 ?_
  refine bw_V0i C dJ0_length_8abf5_6 kyJ0_coder_7d493 lJ0_335 kiJ0_coder_7d493 kvJ0_coder_7d493 (aw_rvS C hi rfl) rfl rfl (ctJ0_coder hi h) ?_
  refine aw_ishr C dJ0_length_8abf5_9 ?_
  have e : FJ0_length_8abf5 (1000 + i) = Int32.ofNat (aw_sl.getD i 0) >>> ((0 : Int32) &&& 31) := by rw [FJ0_length_8abf5, Nat.add_sub_cancel_left]
  rw [e] at E
  exact aw_iret C E dJ0_length_8abf5_10 rfl rfl (bw_ret rfl)
theorem ctJ0_isLatin1 {i : Nat} (hi : i < 7) (h : aw_H) : Ct 0 0 0 yJ0_isLatin1_aae02 cJ0_isLatin1_aae02 1 (some .boolean) [.ref (1000 + i)] wL wR h (aw_D (some (.int 1)) h) := by
  refine Ct.of (ls0 := [.ref (1000 + i)]) (by decide +kernel) rfl rfl (fun X C E hnm => ?_)
  have C : aw_C X RJ0 cJ0_isLatin1_aae02 1 0 0 0 := C
  refine aw_getcs C dJ0_isLatin1_aae02_0 fJ0_38 ?_
  refine aw_if_eq (tgt := 17) C dJ0_isLatin1_aae02_3 (by decide) (fun q => absurd q (by decide)) (fun _ => ?_)
  refine aw_aload_0 C dJ0_isLatin1_aae02_6 ?_
  refine aw_skc C dJ0_isLatin1_aae02_7 hi fJ0_15 ?_
  refine aw_if_ne (tgt := 17) C dJ0_isLatin1_aae02_10 (by decide) (fun q => absurd rfl q) (fun _ => ?_)
  refine aw_iconst C dJ0_isLatin1_aae02_13 li_1 ?_
  refine aw_goto (tgt := 18) C dJ0_isLatin1_aae02_14 (by decide) ?_
  exact aw_zret C E rfl dJ0_isLatin1_aae02_18 rfl rfl (bw_ret rfl)
theorem ctJ3_checkIndex {x n : Int32} {v : Value} (hv : v = .null ∨ v = .ref 1300) (h0 : ¬ x < 0) (h1 : x < n) (h : aw_H) : Ct 0 0 0 yJ3_checkIndex_8e157 cJ3_checkIndex_8e157 3 (some .int) [.int x, .int n, v] wL wR h (aw_D (some (.int x)) h) := by
  refine Ct.of (ls0 := [.int x, .int n, v]) (by decide +kernel) (by rcases hv with rfl | rfl <;> rfl) (by rcases hv with rfl | rfl <;> rfl) (fun X C E hnm => ?_)
  have C : aw_C X RJ3 cJ3_checkIndex_8e157 3 0 0 0 := C
  refine aw_iload_0 C dJ3_checkIndex_8e157_0 ?_
  refine aw_if_lt (tgt := 9) C dJ3_checkIndex_8e157_1 (by decide) (fun q => absurd q h0) (fun _ => ?_)
  refine aw_iload_0 C dJ3_checkIndex_8e157_4 ?_
  refine aw_iload_1 C dJ3_checkIndex_8e157_5 ?_
  refine aw_icmp_lt (tgt := 16) C dJ3_checkIndex_8e157_6 (by decide) (fun _ => ?_) (fun q => absurd h1 q)
  refine aw_iload_0 C dJ3_checkIndex_8e157_16 ?_
  exact aw_iret C E dJ3_checkIndex_8e157_17 rfl rfl (bw_ret rfl)
theorem ctJ0_checkIndex {x n : Int32} (h0 : ¬ x < 0) (h1 : x < n) (h : aw_H) : Ct 1 0 0 yJ0_checkIndex_df160 cJ0_checkIndex_df160 2 none [.int x, .int n] wL wR h (aw_D none h) := by
  refine Ct.of (ls0 := [.int x, .int n]) (by decide +kernel) rfl rfl (fun X C E hnm => ?_)
  have C : aw_C X RJ0 cJ0_checkIndex_df160 2 1 0 0 := C
  refine aw_iload_0 C dJ0_checkIndex_df160_0 ?_
  refine aw_iload_1 C dJ0_checkIndex_df160_1 ?_
  refine aw_getfm C dJ0_checkIndex_df160_2 fJ0_1053 ?_ ?_
  · refine bw_S3i C dJ0_checkIndex_df160_5 kyJ3_checkIndex_8e157 lJ0_1059 ksJ3_checkIndex_8e157 rfl rfl (ctJ3_checkIndex (Or.inl rfl) h0 h1 h) ?_
    refine aw_pop C dJ0_checkIndex_df160_8 rfl ?_
    exact aw_vret C E dJ0_checkIndex_df160_9 rfl rfl (bw_ret rfl)
  · refine bw_S3i C dJ0_checkIndex_df160_5 kyJ3_checkIndex_8e157 lJ0_1059 ksJ3_checkIndex_8e157 rfl rfl (ctJ3_checkIndex (Or.inr rfl) h0 h1 h) ?_
    refine aw_pop C dJ0_checkIndex_df160_8 rfl ?_
    exact aw_vret C E dJ0_checkIndex_df160_9 rfl rfl (bw_ret rfl)
/-- the char at place j of the text at c -/
def aw_ch (c : Nat) (x : Int32) : Int32 := ((((aw_sb.getD (c - 1000) []).getD x.toNatClampNeg 0) &&& 255).toUInt32 % 65536).toInt32
theorem aw_slt {x : Int32} {n : Nat} (hn : n < 2 ^ 31) (h : aw_inb x n = true) : ¬ x < 0 ∧ x < Int32.ofNat n := by
  have h1 := aw_inb_vp h
  obtain ⟨j, hj, rfl⟩ := vp_in_of h1 hn
  exact ⟨nI_pos (Nat.lt_trans hj hn), nI_lt hj hn⟩
theorem aw_sl_lt : ∀ i, i < 7 → aw_sl.getD i 0 < 2 ^ 31 := by decide +kernel
theorem ctJ1_charAt {i : Nat} {x : Int32} (hi : i < 7) (hx : aw_inb x (aw_sl.getD i 0) = true) (h : aw_H) : Ct 2 0 0 yJ1_charAt_3b067 cJ1_charAt_3b067 2 (some .char) [.ref (1100 + i), .int x] wL wR h (aw_D (some (.int (aw_ch (1000 + i) x))) h) := by
  have hlt := aw_slt (aw_sl_lt i hi) hx
  refine Ct.of (ls0 := [.ref (1100 + i), .int x]) (by decide +kernel) rfl rfl (fun X C E hnm => ?_)
  have C : aw_C X RJ1 cJ1_charAt_3b067 2 2 0 0 := C
  refine aw_iload_1 C dJ1_charAt_3b067_0 ?_
  refine aw_aload_0 C dJ1_charAt_3b067_1 ?_
  refine aw_skl C dJ1_charAt_3b067_2 hi ?_
  refine bw_S2v C dJ1_charAt_3b067_3 kyJ0_checkIndex_df160 lJ1_9 ksJ0_checkIndex_df160 rfl rfl (ctJ0_checkIndex hlt.1 hlt.2 h) ?_
  refine aw_aload_0 C dJ1_charAt_3b067_6 ?_
  refine aw_iload_1 C dJ1_charAt_3b067_7 ?_
  refine aw_skb C dJ1_charAt_3b067_8 hi (aw_ix hx) ?_
  refine aw_sipush C dJ1_charAt_3b067_9 ls_255 ?_
  refine aw_iand C dJ1_charAt_3b067_12 ?_
  refine aw_i2c C dJ1_charAt_3b067_13 rfl ?_
  have e : aw_ch (1000 + i) x = ((((aw_sb.getD i []).getD x.toNatClampNeg 0) &&& 255).toUInt32 % 65536).toInt32 := by rw [aw_ch, Nat.add_sub_cancel_left]
  rw [e] at E
  exact aw_zret C E (pk_nc _) dJ1_charAt_3b067_14 rfl rfl (bw_ret rfl)
def FJ0_charAt_5068e (a0 : Nat) (a1 : Int32) : Option Int32 := if aw_inb a1 (aw_sl.getD (a0 - 1000) 0) = true then some (aw_ch a0 a1) else none
theorem ctJ0_charAt_5068e (a0 : Nat) (a1 : Int32) (h : aw_H) (f0 : aw_isK a0 = true) (y : Int32) (hF : FJ0_charAt_5068e a0 a1 = some y) : Ct 3 0 0 yJ0_charAt_5068e cJ0_charAt_5068e 2 (some .char) [.ref a0, .int a1] wL wR h (aw_D (some (.int y)) h) := by
  obtain ⟨i, hi, rfl⟩ := aw_k1 f0
  unfold FJ0_charAt_5068e at hF
  obtain ⟨hx, hF⟩ := bw_side hF
  rw [Nat.add_sub_cancel_left] at hx
  obtain rfl := Option.some.inj hF
  refine Ct.of (ls0 := [.ref (1000 + i), .int a1]) (by decide +kernel) rfl rfl (fun X C E hnm => ?_)
  have C : aw_C X RJ0 cJ0_charAt_5068e 2 3 0 0 := C
  refine aw_aload_0 C dJ0_charAt_5068e_0 ?_
  refine bw_V0i C dJ0_charAt_5068e_1 kyJ0_isLatin1_aae02 lJ0_492 kiJ0_isLatin1_aae02 kvJ0_isLatin1_aae02 (aw_rvS C hi rfl) rfl rfl (ctJ0_isLatin1 hi h) ?_
  refine aw_if_eq (tgt := 16) C dJ0_charAt_5068e_4 (by decide) (fun q => absurd q (by decide)) (fun _ => ?_)
  refine aw_aload_0 C dJ0_charAt_5068e_7 ?_
  refine aw_skv C dJ0_charAt_5068e_8 hi fJ0_9 ?_
  refine aw_iload_1 C dJ0_charAt_5068e_11 ?_
  refine bw_S2i C dJ0_charAt_5068e_12 kyJ1_charAt_3b067 lJ0_495 ksJ1_charAt_3b067 rfl rfl (ctJ1_charAt hi hx h) ?_
  exact aw_zret C E (pk_nc _) dJ0_charAt_5068e_15 rfl rfl (bw_ret rfl)
def aw_e4 {A B C D R : Type} (P : A → B → C → D → Prop) (K : R → Prop) : (A × B × C × D) ⊕ R → Prop
  | .inl (a, b, c, d) => P a b c d
  | .inr q => K q
theorem aw_e4l {A B C D R : Type} {P : A → B → C → D → Prop} {K : R → Prop} {a : A} {b : B} {c : C} {d : D} (h : aw_e4 P K (.inl (a, b, c, d))) : P a b c d := h
theorem aw_loop_rule4 {A B C D R : Type} {body : A × B × C × D → Option ((A × B × C × D) ⊕ R)} (P : A → B → C → D → Prop) (K : R → Prop) (hb : ∀ a b c d y, body (a, b, c, d) = some y → aw_e4 P K y → P a b c d) (n : Nat) (a : A) (b : B) (c : C) (d : D) (q : R) (hF : aw_loop body n (a, b, c, d) = some q) (hK : K q) : P a b c d :=
  aw_loop_rule (fun u => P u.1 u.2.1 u.2.2.1 u.2.2.2) K (fun u y e hk => hb u.1 u.2.1 u.2.2.1 u.2.2.2 y e (by rcases y with y | y <;> exact hk)) n (a, b, c, d) q hF hK

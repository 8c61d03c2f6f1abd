/-! THE CONSTRUCTORS: what `new` leaves, cell by cell, over the first m cells of wL -/
theorem ax_l {m : Nat} (h : Nat.ble m 82 = true) : (wL.take m).length = m := by
  have := Nat.le_of_ble_eq_true h
  rw [List.length_take]
  exact Nat.min_eq_left this
theorem ax_a {m : Nat} {x : Nat × Nat} (h : wL[m]? = some x) : wL.take m ++ [x] = wL.take (m + 1) := by
  rw [List.take_add_one, h]
  rfl
theorem ax_o {m o : Nat} {x : Nat × Nat} (h : wL[o]? = some x) (hlt : Nat.blt o m = true) : (wL.take m)[o]? = some x := by
  rw [List.getElem?_take_of_lt (Nat.le_of_ble_eq_true hlt)]
  exact h
def aw_N (L1 : aw_L) (r1 : aw_R) (h1 : aw_H) : Option Value → aw_L → aw_R → aw_H → Prop := fun v L r h => v = none ∧ L = L1 ∧ r = r1 ∧ h = h1
section AXN
variable {X : aw_X} {own : String} {cc : ByteArray} {nL D mc ms pc : Nat} {ls st : List Value} {r : aw_R} {h : aw_H} {ca sa : Nat} {ix m o : Nat} {Cn : String} {ci : Nat}
theorem ax_lt {m : Nat} (h : Nat.ble m 82 = true) : Nat.blt (wL.take m).length 1000 = true := by
  rw [ax_l h]
  exact Nat.ble_eq_true_of_le (by have := Nat.le_of_ble_eq_true h; omega)
theorem ax_newI {n : Int32} {N : Nat} (C : aw_C X own cc nL D mc ms) (hd : decode cc pc = .ok (.newarray .int, 2)) (hN : vp_in n 1000 ∧ n.toNatClampNeg = N) (hm : Nat.ble m 82 = true) (hw : wL[m]? = some (1, N)) (hca : Nat.ble (ca + 1) mc = true) (hsa : Nat.ble (sa + N) ms = true) (kk : AW X nL (pc + 2) ls (.ref m :: st) (wL.take (m + 1)) (aw_zR r m) (aw_zI h m) (ca + 1) (sa + N)) : AW X nL pc ls (.int n :: st) (wL.take m) r h ca sa := by
  refine aw_newI C hd ka_int hN (ax_lt hm) hca hsa ?_
  rw [ax_l hm, ax_a hw]
  exact kk
theorem ax_newL {n : Int32} {N : Nat} (C : aw_C X own cc nL D mc ms) (hd : decode cc pc = .ok (.newarray .long, 2)) (hN : vp_in n 1000 ∧ n.toNatClampNeg = N) (hm : Nat.ble m 82 = true) (hw : wL[m]? = some (2, N)) (hca : Nat.ble (ca + 1) mc = true) (hsa : Nat.ble (sa + N) ms = true) (kk : AW X nL (pc + 2) ls (.ref m :: st) (wL.take (m + 1)) (aw_zR r m) (aw_zI h m) (ca + 1) (sa + N)) : AW X nL pc ls (.int n :: st) (wL.take m) r h ca sa := by
  refine aw_newL C hd ka_long hN (ax_lt hm) hca hsa ?_
  rw [ax_l hm, ax_a hw]
  exact kk
theorem ax_newA {n : Int32} {N t : Nat} (C : aw_C X own cc nL D mc ms) (hd : decode cc pc = .ok (.anewarray ix, 3)) (ht : (t = 0 ∧ Cn = RX3) ∨ (t = 1 ∧ Cn = RX1)) (hcl : Cond.classLink own ix Cn ∈ BG) (hN : vp_in n 1000 ∧ n.toNatClampNeg = N) (hm : Nat.ble m 82 = true) (hw : wL[m]? = some (t + 3, N)) (hca : Nat.ble (ca + 1) mc = true) (hsa : Nat.ble (sa + N) ms = true) (kk : AW X nL (pc + 3) ls (.ref m :: st) (wL.take (m + 1)) (aw_zR r m) (aw_zI h m) (ca + 1) (sa + N)) : AW X nL pc ls (.int n :: st) (wL.take m) r h ca sa := by
  refine aw_newA C hd ht hcl hN (ax_lt hm) hca hsa ?_
  rw [ax_l hm, ax_a hw]
  exact kk
theorem ax_newo {T : u_T} {N : Nat} {ty : Nat → FieldType} (C : aw_C X own cc nL D mc ms) (hd : decode cc pc = .ok (.new ix, 3)) (hcl : Cond.classLink own ix Cn ∈ BG) (hins : Cond.instantiable Cn N ∈ BG) (hini : Cond.initialized Cn ∈ BG) (hc : vwCl[ci]? = some (Cn, T, N)) (hin : ∀ w ∈ u_ws Cn T N, w ∈ BG) (hty : ∀ j, j < N → parseFieldDescriptor (T j).2.2.1 = some (ty j)) (htk : ∀ j, j < N → aw_tyk (aw_tk ci j) (ty j)) (hm : Nat.ble m 82 = true) (hw : wL[m]? = some (0, ci)) (hca : Nat.ble (ca + 1) mc = true) (hsa : Nat.ble (sa + N) ms = true)
    (kk : AW X nL (pc + 3) ls (.ref m :: st) (wL.take (m + 1)) (aw_zR r m) (aw_zI h m) (ca + 1) (sa + N)) : AW X nL pc ls st (wL.take m) r h ca sa := by
  refine aw_newo C hd hcl hins hini hc hin hty htk (ax_lt hm) hca hsa ?_
  rw [ax_l hm, ax_a hw]
  exact kk
theorem ax_iinc_1 {a0 : Value} {t : List Value} {x d y : Int32} {n : Int} {L : aw_L} (C : aw_C X own cc nL D mc ms) (hd : decode cc pc = .ok (.iinc 1 n, 3)) (hv : Int32.ofInt n = d) (hi : Nat.blt 1 nL = true) (hp : aw_n2 a0 = true) (hy : x + d = y) (k : AW X nL (pc + 3) (a0 :: .int y :: t) st L r h ca sa) : AW X nL pc (a0 :: .int x :: t) st L r h ca sa := by
  subst hy
  exact aw_iinc_1 C hd hv hi hp k
theorem ax_I0 {y : MethodName} {bytes : ByteArray} {ml d mc' ms' : Nat} {L L1 : aw_L} {r1 : aw_R} {h1 : aw_H} (C : aw_C X own cc nL D mc ms) (hd : decode cc pc = .ok (.invokespecial ix, 3)) (hy : aw_Y y bytes ml none 0) (hl : Cond.methodLink own ix y ∈ BG) (hi : Cond.instanceMethod y ∈ BG) (hnm : y.name = "<init>") (hD : Nat.blt d D = true) (hw : Nat.ble (st.map fun v => v.category).sum 8 = true) (e1 : Nat.ble (ca + mc') mc = true) (e2 : Nat.ble (sa + ms') ms = true) (hM : Ct d mc' ms' y bytes ml none [.ref o] L r h (aw_N L1 r1 h1)) (kk : AW X nL (pc + 3) ls st L1 r1 h1 (ca + mc') (sa + ms')) : AW X nL pc ls (.ref o :: st) L r h ca sa :=
  aw_I0 C hd hy hl hi hnm hD hw e1 e2 hM (fun v L' r' h' hp => by obtain ⟨rfl, rfl, rfl, rfl⟩ := hp; exact kk)
theorem ax_J0 {y : MethodName} {bytes : ByteArray} {ml d mc' ms' : Nat} {L L1 : aw_L} {r1 : aw_R} {h1 : aw_H} (C : aw_C X own cc nL D mc ms) (hd : decode cc pc = .ok (.invokespecial ix, 3)) (hy : aw_Y y bytes ml none 0) (hl : Cond.methodLinkNest own ix y RX5 ∈ NW) (hi : Cond.instanceMethod y ∈ BG) (hnm : y.name = "<init>") (hD : Nat.blt d D = true) (hw : Nat.ble (st.map fun v => v.category).sum 8 = true) (e1 : Nat.ble (ca + mc') mc = true) (e2 : Nat.ble (sa + ms') ms = true) (hM : Ct d mc' ms' y bytes ml none [.ref o] L r h (aw_N L1 r1 h1)) (kk : AW X nL (pc + 3) ls st L1 r1 h1 (ca + mc') (sa + ms')) : AW X nL pc ls (.ref o :: st) L r h ca sa :=
  aw_J0 C hd hy hl hi hnm hD hw e1 e2 hM (fun v L' r' h' hp => by obtain ⟨rfl, rfl, rfl, rfl⟩ := hp; exact kk)
end AXN
theorem tkX0 : ∀ j, j < 2 → aw_tyk (aw_tk 0 j) (tyX0 j) := fun j hj => match j, hj with
  | 0, _ => rfl
  | 1, _ => rfl
  | n + 2, h => absurd h (by omega)
theorem tkX1 : ∀ j, j < 3 → aw_tyk (aw_tk 1 j) (tyX1 j) := fun j hj => match j, hj with
  | 0, _ => Or.inr ⟨_, rfl⟩
  | 1, _ => rfl
  | 2, _ => rfl
  | n + 3, h => absurd h (by omega)
theorem tkX2 : ∀ j, j < 8 → aw_tyk (aw_tk 2 j) (tyX2 j) := fun j hj => match j, hj with
  | 0, _ => Or.inr ⟨_, rfl⟩
  | 1, _ => rfl
  | 2, _ => rfl
  | 3, _ => rfl
  | 4, _ => rfl
  | 5, _ => Or.inr ⟨_, rfl⟩
  | 6, _ => rfl
  | 7, _ => rfl
  | n + 8, h => absurd h (by omega)
theorem tkX3 : ∀ j, j < 6 → aw_tyk (aw_tk 3 j) (tyX3 j) := fun j hj => match j, hj with
  | 0, _ => Or.inr ⟨_, rfl⟩
  | 1, _ => Or.inr ⟨_, rfl⟩
  | 2, _ => Or.inr ⟨_, rfl⟩
  | 3, _ => rfl
  | 4, _ => rfl
  | 5, _ => rfl
  | n + 6, h => absurd h (by omega)
theorem tkX4 : ∀ j, j < 4 → aw_tyk (aw_tk 4 j) (tyX4 j) := fun j hj => match j, hj with
  | 0, _ => Or.inr ⟨_, rfl⟩
  | 1, _ => rfl
  | 2, _ => rfl
  | 3, _ => rfl
  | n + 4, h => absurd h (by omega)
theorem tkX5 : ∀ j, j < 8 → aw_tyk (aw_tk 5 j) (tyX5 j) := fun j hj => match j, hj with
  | 0, _ => Or.inl ⟨_, rfl⟩
  | 1, _ => Or.inl ⟨_, rfl⟩
  | 2, _ => rfl
  | 3, _ => Or.inr ⟨_, rfl⟩
  | 4, _ => Or.inl ⟨_, rfl⟩
  | 5, _ => Or.inl ⟨_, rfl⟩
  | 6, _ => Or.inr ⟨_, rfl⟩
  | 7, _ => Or.inl ⟨_, rfl⟩
  | n + 8, h => absurd h (by omega)
theorem tkX6 : ∀ j, j < 18 → aw_tyk (aw_tk 6 j) (tyX6 j) := fun j hj => match j, hj with
  | 0, _ => Or.inr ⟨_, rfl⟩
  | 1, _ => Or.inr ⟨_, rfl⟩
  | 2, _ => rfl
  | 3, _ => rfl
  | 4, _ => rfl
  | 5, _ => rfl
  | 6, _ => Or.inr ⟨_, rfl⟩
  | 7, _ => Or.inr ⟨_, rfl⟩
  | 8, _ => Or.inr ⟨_, rfl⟩
  | 9, _ => Or.inr ⟨_, rfl⟩
  | 10, _ => Or.inr ⟨_, rfl⟩
  | 11, _ => Or.inr ⟨_, rfl⟩
  | 12, _ => rfl
  | 13, _ => rfl
  | 14, _ => rfl
  | 15, _ => Or.inr ⟨_, rfl⟩
  | 16, _ => Or.inl ⟨_, rfl⟩
  | 17, _ => Or.inr ⟨_, rfl⟩
  | n + 18, h => absurd h (by omega)
def EX0_r (m o : Nat) (r : aw_R) : aw_R := r
def EX0_h (m o : Nat) (h : aw_H) : aw_H := aw_sI (aw_sL h o 0 (0)) o 1 (0)
theorem ctX0_init (m o : Nat) (r : aw_R) (h : aw_H) (hc : Nat.blt o m = true) (ho : wL[o]? = some (0, 0)) : Ct 1 0 0 yX0_init cX0_init 1 none [.ref o] (wL.take m) r h (aw_N (wL.take (m)) (EX0_r m o r) (EX0_h m o h)) := by
  have h82 : ∀ k x, wL[k]? = some x → Nat.ble k 82 = true := fun k x hk => Nat.ble_eq_true_of_le (by have := (List.getElem?_eq_some_iff.mp hk).1; exact Nat.le_of_lt this)
  have ho0 : (wL.take (m))[o]? = some (0, 0) := ax_o ho (Nat.ble_eq_true_of_le (by have := Nat.le_of_ble_eq_true hc; omega))
  refine Ct.of (ls0 := [.ref o]) (by decide +kernel) rfl rfl (fun X C E hnm => ?_)
  have C : aw_C X RX0 cX0_init 1 1 0 0 := C
  refine aw_aload_0 C dX0_init_0 ?_
  refine aw_oinit C dX0_init_1 lX0_1 kx_oi.1 kx_oi.2 rfl rfl ?_
  refine aw_aload_0 C dX0_init_4 ?_
  refine aw_lconst C dX0_init_5 ll_0 ?_
  refine aw_putL C dX0_init_6 fX0_7 gX0_0 ho0 ?_
  refine aw_aload_0 C dX0_init_9 ?_
  refine aw_iconst C dX0_init_10 li_0 ?_
  refine aw_putI C dX0_init_11 fX0_13 gX0_1 ho0 ?_
  exact aw_vret C E dX0_init_14 rfl rfl ⟨rfl, rfl, rfl, rfl⟩
def EX1_r (m o : Nat) (r : aw_R) : aw_R := aw_sR (aw_zR r m) o 0 m
def EX1_h (m o : Nat) (h : aw_H) : aw_H := aw_sI (aw_sI (aw_zI h m) o 1 (-1)) o 2 (0)
theorem ctX1_init (m o : Nat) (r : aw_R) (h : aw_H) (hc : Nat.blt o m = true) (ho : wL[o]? = some (0, 1)) (hw0 : wL[m]? = some (2, 40)) : Ct 1 1 40 yX1_init cX1_init 1 none [.ref o] (wL.take m) r h (aw_N (wL.take (m + 1)) (EX1_r m o r) (EX1_h m o h)) := by
  have h82 : ∀ k x, wL[k]? = some x → Nat.ble k 82 = true := fun k x hk => Nat.ble_eq_true_of_le (by have := (List.getElem?_eq_some_iff.mp hk).1; exact Nat.le_of_lt this)
  have hm0 : Nat.ble (m) 82 = true := h82 _ _ hw0
  have ho0 : (wL.take (m))[o]? = some (0, 1) := ax_o ho (Nat.ble_eq_true_of_le (by have := Nat.le_of_ble_eq_true hc; omega))
  have ho1 : (wL.take (m + 1))[o]? = some (0, 1) := ax_o ho (Nat.ble_eq_true_of_le (by have := Nat.le_of_ble_eq_true hc; omega))
  refine Ct.of (ls0 := [.ref o]) (by decide +kernel) rfl rfl (fun X C E hnm => ?_)
  have C : aw_C X RX1 cX1_init 1 1 1 40 := C
  refine aw_aload_0 C dX1_init_0 ?_
  refine aw_oinit C dX1_init_1 lX1_3 kx_oi.1 kx_oi.2 rfl rfl ?_
  refine aw_aload_0 C dX1_init_4 ?_
  refine aw_bipush C dX1_init_5 lb_40 ?_
  refine ax_newL (m := m) C dX1_init_7 (aw_ixk (k := 40) (n := 1000) rfl rfl) hm0 hw0 rfl rfl ?_
  refine aw_putR hnm rfl C dX1_init_9 fX1_9 gX1_0 ho1 ?_
  refine aw_aload_0 C dX1_init_12 ?_
  refine aw_iconst C dX1_init_13 li_m1 ?_
  refine aw_putI C dX1_init_14 fX1_15 gX1_1 ho1 ?_
  refine aw_aload_0 C dX1_init_17 ?_
  refine aw_iconst C dX1_init_18 li_0 ?_
  refine aw_putI C dX1_init_19 fX1_19 gX1_2 ho1 ?_
  exact aw_vret C E dX1_init_22 rfl rfl ⟨rfl, rfl, rfl, rfl⟩
def EX2_r (m o : Nat) (r : aw_R) : aw_R := aw_sR (aw_zR (aw_sR (aw_zR r m) o 0 m) (m + 1)) o 5 (m + 1)
def EX2_h (m o : Nat) (h : aw_H) : aw_H := aw_sI (aw_sI (aw_zI (aw_sI (aw_sI (aw_sI (aw_sI (aw_zI h m) o 1 (0)) o 2 (0)) o 3 (0)) o 4 (0)) (m + 1)) o 6 (0)) o 7 (0)
theorem ctX2_init (m o : Nat) (r : aw_R) (h : aw_H) (hc : Nat.blt o m = true) (ho : wL[o]? = some (0, 2)) (hw0 : wL[m]? = some (1, 60)) (hw1 : wL[m + 1]? = some (1, 60)) : Ct 1 2 120 yX2_init cX2_init 1 none [.ref o] (wL.take m) r h (aw_N (wL.take (m + 2)) (EX2_r m o r) (EX2_h m o h)) := by
  have h82 : ∀ k x, wL[k]? = some x → Nat.ble k 82 = true := fun k x hk => Nat.ble_eq_true_of_le (by have := (List.getElem?_eq_some_iff.mp hk).1; exact Nat.le_of_lt this)
  have hm0 : Nat.ble (m) 82 = true := h82 _ _ hw0
  have hm1 : Nat.ble (m + 1) 82 = true := h82 _ _ hw1
  have ho0 : (wL.take (m))[o]? = some (0, 2) := ax_o ho (Nat.ble_eq_true_of_le (by have := Nat.le_of_ble_eq_true hc; omega))
  have ho1 : (wL.take (m + 1))[o]? = some (0, 2) := ax_o ho (Nat.ble_eq_true_of_le (by have := Nat.le_of_ble_eq_true hc; omega))
  have ho2 : (wL.take (m + 2))[o]? = some (0, 2) := ax_o ho (Nat.ble_eq_true_of_le (by have := Nat.le_of_ble_eq_true hc; omega))
  refine Ct.of (ls0 := [.ref o]) (by decide +kernel) rfl rfl (fun X C E hnm => ?_)
  have C : aw_C X RX2 cX2_init 1 1 2 120 := C
  refine aw_aload_0 C dX2_init_0 ?_
  refine aw_oinit C dX2_init_1 lX2_3 kx_oi.1 kx_oi.2 rfl rfl ?_
  refine aw_aload_0 C dX2_init_4 ?_
  refine aw_bipush C dX2_init_5 lb_60 ?_
  refine ax_newI (m := m) C dX2_init_7 (aw_ixk (k := 60) (n := 1000) rfl rfl) hm0 hw0 rfl rfl ?_
  refine aw_putR hnm rfl C dX2_init_9 fX2_9 gX2_0 ho1 ?_
  refine aw_aload_0 C dX2_init_12 ?_
  refine aw_iconst C dX2_init_13 li_0 ?_
  refine aw_putI C dX2_init_14 fX2_15 gX2_1 ho1 ?_
  refine aw_aload_0 C dX2_init_17 ?_
  refine aw_iconst C dX2_init_18 li_0 ?_
  refine aw_putI C dX2_init_19 fX2_19 gX2_2 ho1 ?_
  refine aw_aload_0 C dX2_init_22 ?_
  refine aw_iconst C dX2_init_23 li_0 ?_
  refine aw_putI C dX2_init_24 fX2_22 gX2_3 ho1 ?_
  refine aw_aload_0 C dX2_init_27 ?_
  refine aw_iconst C dX2_init_28 li_0 ?_
  refine aw_putI C dX2_init_29 fX2_25 gX2_4 ho1 ?_
  refine aw_aload_0 C dX2_init_32 ?_
  refine aw_bipush C dX2_init_33 lb_60 ?_
  refine ax_newI (m := m + 1) C dX2_init_35 (aw_ixk (k := 60) (n := 1000) rfl rfl) hm1 hw1 rfl rfl ?_
  refine aw_putR hnm rfl C dX2_init_37 fX2_28 gX2_5 ho2 ?_
  refine aw_aload_0 C dX2_init_40 ?_
  refine aw_iconst C dX2_init_41 li_0 ?_
  refine aw_putI C dX2_init_42 fX2_31 gX2_6 ho2 ?_
  refine aw_aload_0 C dX2_init_45 ?_
  refine aw_iconst C dX2_init_46 li_0 ?_
  refine aw_putI C dX2_init_47 fX2_34 gX2_7 ho2 ?_
  exact aw_vret C E dX2_init_50 rfl rfl ⟨rfl, rfl, rfl, rfl⟩
def EX3_r (m o : Nat) (r : aw_R) : aw_R := aw_sR (aw_zR (aw_sR (aw_zR (aw_sR (aw_zR r m) o 0 m) (m + 1)) o 1 (m + 1)) (m + 2)) o 2 (m + 2)
def EX3_h (m o : Nat) (h : aw_H) : aw_H := aw_sL (aw_sL (aw_sI (aw_zI (aw_zI (aw_zI h m) (m + 1)) (m + 2)) o 3 (0)) o 4 (0)) o 5 (1)
theorem ctX3_init (m o : Nat) (r : aw_R) (h : aw_H) (hc : Nat.blt o m = true) (ho : wL[o]? = some (0, 3)) (hw0 : wL[m]? = some (1, 4)) (hw1 : wL[m + 1]? = some (1, 3)) (hw2 : wL[m + 2]? = some (1, 3)) : Ct 1 3 10 yX3_init cX3_init 1 none [.ref o] (wL.take m) r h (aw_N (wL.take (m + 3)) (EX3_r m o r) (EX3_h m o h)) := by
  have h82 : ∀ k x, wL[k]? = some x → Nat.ble k 82 = true := fun k x hk => Nat.ble_eq_true_of_le (by have := (List.getElem?_eq_some_iff.mp hk).1; exact Nat.le_of_lt this)
  have hm0 : Nat.ble (m) 82 = true := h82 _ _ hw0
  have hm1 : Nat.ble (m + 1) 82 = true := h82 _ _ hw1
  have hm2 : Nat.ble (m + 2) 82 = true := h82 _ _ hw2
  have ho0 : (wL.take (m))[o]? = some (0, 3) := ax_o ho (Nat.ble_eq_true_of_le (by have := Nat.le_of_ble_eq_true hc; omega))
  have ho1 : (wL.take (m + 1))[o]? = some (0, 3) := ax_o ho (Nat.ble_eq_true_of_le (by have := Nat.le_of_ble_eq_true hc; omega))
  have ho2 : (wL.take (m + 2))[o]? = some (0, 3) := ax_o ho (Nat.ble_eq_true_of_le (by have := Nat.le_of_ble_eq_true hc; omega))
  have ho3 : (wL.take (m + 3))[o]? = some (0, 3) := ax_o ho (Nat.ble_eq_true_of_le (by have := Nat.le_of_ble_eq_true hc; omega))
  refine Ct.of (ls0 := [.ref o]) (by decide +kernel) rfl rfl (fun X C E hnm => ?_)
  have C : aw_C X RX3 cX3_init 1 1 3 10 := C
  refine aw_aload_0 C dX3_init_0 ?_
  refine aw_oinit C dX3_init_1 lX3_3 kx_oi.1 kx_oi.2 rfl rfl ?_
  refine aw_aload_0 C dX3_init_4 ?_
  refine aw_iconst C dX3_init_5 li_4 ?_
  refine ax_newI (m := m) C dX3_init_6 (aw_ixk (k := 4) (n := 1000) rfl rfl) hm0 hw0 rfl rfl ?_
  refine aw_putR hnm rfl C dX3_init_8 fX3_9 gX3_0 ho1 ?_
  refine aw_aload_0 C dX3_init_11 ?_
  refine aw_iconst C dX3_init_12 li_3 ?_
  refine ax_newI (m := m + 1) C dX3_init_13 (aw_ixk (k := 3) (n := 1000) rfl rfl) hm1 hw1 rfl rfl ?_
  refine aw_putR hnm rfl C dX3_init_15 fX3_15 gX3_1 ho2 ?_
  refine aw_aload_0 C dX3_init_18 ?_
  refine aw_iconst C dX3_init_19 li_3 ?_
  refine ax_newI (m := m + 2) C dX3_init_20 (aw_ixk (k := 3) (n := 1000) rfl rfl) hm2 hw2 rfl rfl ?_
  refine aw_putR hnm rfl C dX3_init_22 fX3_18 gX3_2 ho3 ?_
  refine aw_aload_0 C dX3_init_25 ?_
  refine aw_iconst C dX3_init_26 li_0 ?_
  refine aw_putI C dX3_init_27 fX3_21 gX3_3 ho3 ?_
  refine aw_aload_0 C dX3_init_30 ?_
  refine aw_lconst C dX3_init_31 ll_0 ?_
  refine aw_putL C dX3_init_32 fX3_25 gX3_4 ho3 ?_
  refine aw_aload_0 C dX3_init_35 ?_
  refine aw_lconst C dX3_init_36 ll_1 ?_
  refine aw_putL C dX3_init_37 fX3_29 gX3_5 ho3 ?_
  exact aw_vret C E dX3_init_40 rfl rfl ⟨rfl, rfl, rfl, rfl⟩
def EX4a_r (r : aw_R) : aw_R := aw_sR ((EX3_r 24 23 (aw_zR (aw_sR ((EX3_r 20 19 (aw_zR (aw_sR ((EX3_r 16 15 (aw_zR (aw_sR ((EX3_r 12 11 (aw_zR (aw_sR ((EX3_r 8 7 (aw_zR (aw_sR ((EX3_r 4 3 (aw_zR (aw_sR (aw_zR r 2) 1 0 2) 3))) 2 0 3) 7))) 2 1 7) 11))) 2 2 11) 15))) 2 3 15) 19))) 2 4 19) 23))) 2 5 23
def EX4a_h (h : aw_H) : aw_H := (EX3_h 24 23 (aw_zI ((EX3_h 20 19 (aw_zI ((EX3_h 16 15 (aw_zI ((EX3_h 12 11 (aw_zI ((EX3_h 8 7 (aw_zI ((EX3_h 4 3 (aw_zI (aw_sI (aw_sI (aw_sI (aw_zI h 2) 1 1 (0)) 1 2 (64)) 1 3 (0)) 3))) 7))) 11))) 15))) 19))) 23))
set_option maxRecDepth 100000 in
set_option maxHeartbeats 4000000 in
theorem ctX4_init_a (r : aw_R) (h : aw_H) : Ct 2 25 102 yX4_init cX4_init 2 none [.ref 1] (wL.take 2) r h (aw_N (wL.take 27) (EX4a_r r) (EX4a_h h)) := by
  refine Ct.of (ls0 := [.ref 1, .retAddr 0]) (by decide +kernel) rfl rfl (fun X C E hnm => ?_)
  have C : aw_C X RX4 cX4_init 2 2 25 102 := C
  refine aw_aload_0 C dX4_init_0 ?_
  refine aw_oinit C dX4_init_1 lX4_3 kx_oi.1 kx_oi.2 rfl rfl ?_
  refine aw_aload_0 C dX4_init_4 ?_
  refine aw_bipush C dX4_init_5 lb_6 ?_
  refine ax_newA (t := 0) (m := 2) C dX4_init_7 (Or.inl ⟨rfl, rfl⟩) oX4_9 (aw_ixk (k := 6) (n := 1000) rfl rfl) rfl rfl rfl rfl ?_
  refine aw_putR hnm rfl C dX4_init_10 fX4_11 gX4_0 (ax_o (m := 3) (o := 1) rfl rfl) ?_
  refine aw_aload_0 C dX4_init_13 ?_
  refine aw_iconst C dX4_init_14 li_0 ?_
  refine aw_putI C dX4_init_15 fX4_17 gX4_1 (ax_o (m := 3) (o := 1) rfl rfl) ?_
  refine aw_aload_0 C dX4_init_18 ?_
  refine aw_bipush C dX4_init_19 lb_64 ?_
  refine aw_putI C dX4_init_21 fX4_21 gX4_2 (ax_o (m := 3) (o := 1) rfl rfl) ?_
  refine aw_aload_0 C dX4_init_24 ?_
  refine aw_iconst C dX4_init_25 li_0 ?_
  refine aw_putI C dX4_init_26 fX4_24 gX4_3 (ax_o (m := 3) (o := 1) rfl rfl) ?_
  refine aw_iconst C dX4_init_29 li_0 ?_
  refine aw_istore_1 C dX4_init_30 rfl rfl ?_
  refine aw_iload_1 C dX4_init_31 ?_
  refine aw_bipush C dX4_init_32 lb_6 ?_
  refine aw_icmp_ge (tgt := 56) C dX4_init_34 (by decide) (fun q => absurd q (by decide)) (fun _ => ?_)
  refine aw_aload_0 C dX4_init_37 ?_
  refine aw_getR (q := 2) C dX4_init_38 fX4_11 gX4_0 (ax_o (m := 3) (o := 1) rfl rfl) (by rfl) ?_
  refine aw_iload_1 C dX4_init_41 ?_
  refine ax_newo (m := 3) (T := TX3) (ty := tyX3) C dX4_init_42 oX4_9 kiX3 knX3 rfl bgX3 tyX3_ok tkX3 rfl rfl rfl rfl ?_
  refine aw_dup C dX4_init_45 rfl ?_
  refine ax_J0 (r1 := (EX3_r 4 3 (aw_zR (aw_sR (aw_zR r 2) 1 0 2) 3))) (h1 := (EX3_h 4 3 (aw_zI (aw_sI (aw_sI (aw_sI (aw_zI h 2) 1 1 (0)) 1 2 (64)) 1 3 (0)) 3))) C dX4_init_46 kyX3_init lX4_27 kiX3_init rfl rfl rfl rfl rfl (ctX3_init 4 3 (aw_zR (aw_sR (aw_zR r 2) 1 0 2) 3) (aw_zI (aw_sI (aw_sI (aw_sI (aw_zI h 2) 1 1 (0)) 1 2 (64)) 1 3 (0)) 3) rfl rfl rfl rfl rfl) ?_
  refine aw_aast (t := 0) (cq := 3) C dX4_init_49 (Or.inl ⟨rfl, rfl⟩) (ax_o (m := 7) (o := 2) rfl rfl) (ax_o (m := 7) (o := 3) rfl rfl) rfl (aw_ixk (k := 0) (n := 6) rfl rfl) ?_
  refine ax_iinc_1 (y := (1 : Int32)) C dX4_init_50 li_1 rfl rfl (by decide) ?_
  refine aw_goto (tgt := 31) C dX4_init_53 (by decide) ?_
  refine aw_iload_1 C dX4_init_31 ?_
  refine aw_bipush C dX4_init_32 lb_6 ?_
  refine aw_icmp_ge (tgt := 56) C dX4_init_34 (by decide) (fun q => absurd q (by decide)) (fun _ => ?_)
  refine aw_aload_0 C dX4_init_37 ?_
  refine aw_getR (q := 2) C dX4_init_38 fX4_11 gX4_0 (ax_o (m := 7) (o := 1) rfl rfl) (by rfl) ?_
  refine aw_iload_1 C dX4_init_41 ?_
  refine ax_newo (m := 7) (T := TX3) (ty := tyX3) C dX4_init_42 oX4_9 kiX3 knX3 rfl bgX3 tyX3_ok tkX3 rfl rfl rfl rfl ?_
  refine aw_dup C dX4_init_45 rfl ?_
  refine ax_J0 (r1 := (EX3_r 8 7 (aw_zR (aw_sR ((EX3_r 4 3 (aw_zR (aw_sR (aw_zR r 2) 1 0 2) 3))) 2 0 3) 7))) (h1 := (EX3_h 8 7 (aw_zI ((EX3_h 4 3 (aw_zI (aw_sI (aw_sI (aw_sI (aw_zI h 2) 1 1 (0)) 1 2 (64)) 1 3 (0)) 3))) 7))) C dX4_init_46 kyX3_init lX4_27 kiX3_init rfl rfl rfl rfl rfl (ctX3_init 8 7 (aw_zR (aw_sR ((EX3_r 4 3 (aw_zR (aw_sR (aw_zR r 2) 1 0 2) 3))) 2 0 3) 7) (aw_zI ((EX3_h 4 3 (aw_zI (aw_sI (aw_sI (aw_sI (aw_zI h 2) 1 1 (0)) 1 2 (64)) 1 3 (0)) 3))) 7) rfl rfl rfl rfl rfl) ?_
  refine aw_aast (t := 0) (cq := 3) C dX4_init_49 (Or.inl ⟨rfl, rfl⟩) (ax_o (m := 11) (o := 2) rfl rfl) (ax_o (m := 11) (o := 7) rfl rfl) rfl (aw_ixk (k := 1) (n := 6) rfl rfl) ?_
  refine ax_iinc_1 (y := (2 : Int32)) C dX4_init_50 li_1 rfl rfl (by decide) ?_
  refine aw_goto (tgt := 31) C dX4_init_53 (by decide) ?_
  refine aw_iload_1 C dX4_init_31 ?_
  refine aw_bipush C dX4_init_32 lb_6 ?_
  refine aw_icmp_ge (tgt := 56) C dX4_init_34 (by decide) (fun q => absurd q (by decide)) (fun _ => ?_)
  refine aw_aload_0 C dX4_init_37 ?_
  refine aw_getR (q := 2) C dX4_init_38 fX4_11 gX4_0 (ax_o (m := 11) (o := 1) rfl rfl) (by rfl) ?_
  refine aw_iload_1 C dX4_init_41 ?_
  refine ax_newo (m := 11) (T := TX3) (ty := tyX3) C dX4_init_42 oX4_9 kiX3 knX3 rfl bgX3 tyX3_ok tkX3 rfl rfl rfl rfl ?_
  refine aw_dup C dX4_init_45 rfl ?_
  refine ax_J0 (r1 := (EX3_r 12 11 (aw_zR (aw_sR ((EX3_r 8 7 (aw_zR (aw_sR ((EX3_r 4 3 (aw_zR (aw_sR (aw_zR r 2) 1 0 2) 3))) 2 0 3) 7))) 2 1 7) 11))) (h1 := (EX3_h 12 11 (aw_zI ((EX3_h 8 7 (aw_zI ((EX3_h 4 3 (aw_zI (aw_sI (aw_sI (aw_sI (aw_zI h 2) 1 1 (0)) 1 2 (64)) 1 3 (0)) 3))) 7))) 11))) C dX4_init_46 kyX3_init lX4_27 kiX3_init rfl rfl rfl rfl rfl (ctX3_init 12 11 (aw_zR (aw_sR ((EX3_r 8 7 (aw_zR (aw_sR ((EX3_r 4 3 (aw_zR (aw_sR (aw_zR r 2) 1 0 2) 3))) 2 0 3) 7))) 2 1 7) 11) (aw_zI ((EX3_h 8 7 (aw_zI ((EX3_h 4 3 (aw_zI (aw_sI (aw_sI (aw_sI (aw_zI h 2) 1 1 (0)) 1 2 (64)) 1 3 (0)) 3))) 7))) 11) rfl rfl rfl rfl rfl) ?_
  refine aw_aast (t := 0) (cq := 3) C dX4_init_49 (Or.inl ⟨rfl, rfl⟩) (ax_o (m := 15) (o := 2) rfl rfl) (ax_o (m := 15) (o := 11) rfl rfl) rfl (aw_ixk (k := 2) (n := 6) rfl rfl) ?_
  refine ax_iinc_1 (y := (3 : Int32)) C dX4_init_50 li_1 rfl rfl (by decide) ?_
  refine aw_goto (tgt := 31) C dX4_init_53 (by decide) ?_
  refine aw_iload_1 C dX4_init_31 ?_
  refine aw_bipush C dX4_init_32 lb_6 ?_
  refine aw_icmp_ge (tgt := 56) C dX4_init_34 (by decide) (fun q => absurd q (by decide)) (fun _ => ?_)
  refine aw_aload_0 C dX4_init_37 ?_
  refine aw_getR (q := 2) C dX4_init_38 fX4_11 gX4_0 (ax_o (m := 15) (o := 1) rfl rfl) (by rfl) ?_
  refine aw_iload_1 C dX4_init_41 ?_
  refine ax_newo (m := 15) (T := TX3) (ty := tyX3) C dX4_init_42 oX4_9 kiX3 knX3 rfl bgX3 tyX3_ok tkX3 rfl rfl rfl rfl ?_
  refine aw_dup C dX4_init_45 rfl ?_
  refine ax_J0 (r1 := (EX3_r 16 15 (aw_zR (aw_sR ((EX3_r 12 11 (aw_zR (aw_sR ((EX3_r 8 7 (aw_zR (aw_sR ((EX3_r 4 3 (aw_zR (aw_sR (aw_zR r 2) 1 0 2) 3))) 2 0 3) 7))) 2 1 7) 11))) 2 2 11) 15))) (h1 := (EX3_h 16 15 (aw_zI ((EX3_h 12 11 (aw_zI ((EX3_h 8 7 (aw_zI ((EX3_h 4 3 (aw_zI (aw_sI (aw_sI (aw_sI (aw_zI h 2) 1 1 (0)) 1 2 (64)) 1 3 (0)) 3))) 7))) 11))) 15))) C dX4_init_46 kyX3_init lX4_27 kiX3_init rfl rfl rfl rfl rfl (ctX3_init 16 15 (aw_zR (aw_sR ((EX3_r 12 11 (aw_zR (aw_sR ((EX3_r 8 7 (aw_zR (aw_sR ((EX3_r 4 3 (aw_zR (aw_sR (aw_zR r 2) 1 0 2) 3))) 2 0 3) 7))) 2 1 7) 11))) 2 2 11) 15) (aw_zI ((EX3_h 12 11 (aw_zI ((EX3_h 8 7 (aw_zI ((EX3_h 4 3 (aw_zI (aw_sI (aw_sI (aw_sI (aw_zI h 2) 1 1 (0)) 1 2 (64)) 1 3 (0)) 3))) 7))) 11))) 15) rfl rfl rfl rfl rfl) ?_
  refine aw_aast (t := 0) (cq := 3) C dX4_init_49 (Or.inl ⟨rfl, rfl⟩) (ax_o (m := 19) (o := 2) rfl rfl) (ax_o (m := 19) (o := 15) rfl rfl) rfl (aw_ixk (k := 3) (n := 6) rfl rfl) ?_
  refine ax_iinc_1 (y := (4 : Int32)) C dX4_init_50 li_1 rfl rfl (by decide) ?_
  refine aw_goto (tgt := 31) C dX4_init_53 (by decide) ?_
  refine aw_iload_1 C dX4_init_31 ?_
  refine aw_bipush C dX4_init_32 lb_6 ?_
  refine aw_icmp_ge (tgt := 56) C dX4_init_34 (by decide) (fun q => absurd q (by decide)) (fun _ => ?_)
  refine aw_aload_0 C dX4_init_37 ?_
  refine aw_getR (q := 2) C dX4_init_38 fX4_11 gX4_0 (ax_o (m := 19) (o := 1) rfl rfl) (by rfl) ?_
  refine aw_iload_1 C dX4_init_41 ?_
  refine ax_newo (m := 19) (T := TX3) (ty := tyX3) C dX4_init_42 oX4_9 kiX3 knX3 rfl bgX3 tyX3_ok tkX3 rfl rfl rfl rfl ?_
  refine aw_dup C dX4_init_45 rfl ?_
  refine ax_J0 (r1 := (EX3_r 20 19 (aw_zR (aw_sR ((EX3_r 16 15 (aw_zR (aw_sR ((EX3_r 12 11 (aw_zR (aw_sR ((EX3_r 8 7 (aw_zR (aw_sR ((EX3_r 4 3 (aw_zR (aw_sR (aw_zR r 2) 1 0 2) 3))) 2 0 3) 7))) 2 1 7) 11))) 2 2 11) 15))) 2 3 15) 19))) (h1 := (EX3_h 20 19 (aw_zI ((EX3_h 16 15 (aw_zI ((EX3_h 12 11 (aw_zI ((EX3_h 8 7 (aw_zI ((EX3_h 4 3 (aw_zI (aw_sI (aw_sI (aw_sI (aw_zI h 2) 1 1 (0)) 1 2 (64)) 1 3 (0)) 3))) 7))) 11))) 15))) 19))) C dX4_init_46 kyX3_init lX4_27 kiX3_init rfl rfl rfl rfl rfl (ctX3_init 20 19 (aw_zR (aw_sR ((EX3_r 16 15 (aw_zR (aw_sR ((EX3_r 12 11 (aw_zR (aw_sR ((EX3_r 8 7 (aw_zR (aw_sR ((EX3_r 4 3 (aw_zR (aw_sR (aw_zR r 2) 1 0 2) 3))) 2 0 3) 7))) 2 1 7) 11))) 2 2 11) 15))) 2 3 15) 19) (aw_zI ((EX3_h 16 15 (aw_zI ((EX3_h 12 11 (aw_zI ((EX3_h 8 7 (aw_zI ((EX3_h 4 3 (aw_zI (aw_sI (aw_sI (aw_sI (aw_zI h 2) 1 1 (0)) 1 2 (64)) 1 3 (0)) 3))) 7))) 11))) 15))) 19) rfl rfl rfl rfl rfl) ?_
  refine aw_aast (t := 0) (cq := 3) C dX4_init_49 (Or.inl ⟨rfl, rfl⟩) (ax_o (m := 23) (o := 2) rfl rfl) (ax_o (m := 23) (o := 19) rfl rfl) rfl (aw_ixk (k := 4) (n := 6) rfl rfl) ?_
  refine ax_iinc_1 (y := (5 : Int32)) C dX4_init_50 li_1 rfl rfl (by decide) ?_
  refine aw_goto (tgt := 31) C dX4_init_53 (by decide) ?_
  refine aw_iload_1 C dX4_init_31 ?_
  refine aw_bipush C dX4_init_32 lb_6 ?_
  refine aw_icmp_ge (tgt := 56) C dX4_init_34 (by decide) (fun q => absurd q (by decide)) (fun _ => ?_)
  refine aw_aload_0 C dX4_init_37 ?_
  refine aw_getR (q := 2) C dX4_init_38 fX4_11 gX4_0 (ax_o (m := 23) (o := 1) rfl rfl) (by rfl) ?_
  refine aw_iload_1 C dX4_init_41 ?_
  refine ax_newo (m := 23) (T := TX3) (ty := tyX3) C dX4_init_42 oX4_9 kiX3 knX3 rfl bgX3 tyX3_ok tkX3 rfl rfl rfl rfl ?_
  refine aw_dup C dX4_init_45 rfl ?_
  refine ax_J0 (r1 := (EX3_r 24 23 (aw_zR (aw_sR ((EX3_r 20 19 (aw_zR (aw_sR ((EX3_r 16 15 (aw_zR (aw_sR ((EX3_r 12 11 (aw_zR (aw_sR ((EX3_r 8 7 (aw_zR (aw_sR ((EX3_r 4 3 (aw_zR (aw_sR (aw_zR r 2) 1 0 2) 3))) 2 0 3) 7))) 2 1 7) 11))) 2 2 11) 15))) 2 3 15) 19))) 2 4 19) 23))) (h1 := (EX3_h 24 23 (aw_zI ((EX3_h 20 19 (aw_zI ((EX3_h 16 15 (aw_zI ((EX3_h 12 11 (aw_zI ((EX3_h 8 7 (aw_zI ((EX3_h 4 3 (aw_zI (aw_sI (aw_sI (aw_sI (aw_zI h 2) 1 1 (0)) 1 2 (64)) 1 3 (0)) 3))) 7))) 11))) 15))) 19))) 23))) C dX4_init_46 kyX3_init lX4_27 kiX3_init rfl rfl rfl rfl rfl (ctX3_init 24 23 (aw_zR (aw_sR ((EX3_r 20 19 (aw_zR (aw_sR ((EX3_r 16 15 (aw_zR (aw_sR ((EX3_r 12 11 (aw_zR (aw_sR ((EX3_r 8 7 (aw_zR (aw_sR ((EX3_r 4 3 (aw_zR (aw_sR (aw_zR r 2) 1 0 2) 3))) 2 0 3) 7))) 2 1 7) 11))) 2 2 11) 15))) 2 3 15) 19))) 2 4 19) 23) (aw_zI ((EX3_h 20 19 (aw_zI ((EX3_h 16 15 (aw_zI ((EX3_h 12 11 (aw_zI ((EX3_h 8 7 (aw_zI ((EX3_h 4 3 (aw_zI (aw_sI (aw_sI (aw_sI (aw_zI h 2) 1 1 (0)) 1 2 (64)) 1 3 (0)) 3))) 7))) 11))) 15))) 19))) 23) rfl rfl rfl rfl rfl) ?_
  refine aw_aast (t := 0) (cq := 3) C dX4_init_49 (Or.inl ⟨rfl, rfl⟩) (ax_o (m := 27) (o := 2) rfl rfl) (ax_o (m := 27) (o := 23) rfl rfl) rfl (aw_ixk (k := 5) (n := 6) rfl rfl) ?_
  refine ax_iinc_1 (y := (6 : Int32)) C dX4_init_50 li_1 rfl rfl (by decide) ?_
  refine aw_goto (tgt := 31) C dX4_init_53 (by decide) ?_
  refine aw_iload_1 C dX4_init_31 ?_
  refine aw_bipush C dX4_init_32 lb_6 ?_
  refine aw_icmp_ge (tgt := 56) C dX4_init_34 (by decide) (fun _ => ?_) (fun q => absurd (by decide) q)
  exact aw_vret C E dX4_init_56 rfl rfl ⟨rfl, rfl, rfl, rfl⟩
def EX4b_r (r : aw_R) : aw_R := aw_sR ((EX3_r 50 49 (aw_zR (aw_sR ((EX3_r 46 45 (aw_zR (aw_sR ((EX3_r 42 41 (aw_zR (aw_sR ((EX3_r 38 37 (aw_zR (aw_sR ((EX3_r 34 33 (aw_zR (aw_sR ((EX3_r 30 29 (aw_zR (aw_sR (aw_zR r 28) 27 0 28) 29))) 28 0 29) 33))) 28 1 33) 37))) 28 2 37) 41))) 28 3 41) 45))) 28 4 45) 49))) 28 5 49
def EX4b_h (h : aw_H) : aw_H := (EX3_h 50 49 (aw_zI ((EX3_h 46 45 (aw_zI ((EX3_h 42 41 (aw_zI ((EX3_h 38 37 (aw_zI ((EX3_h 34 33 (aw_zI ((EX3_h 30 29 (aw_zI (aw_sI (aw_sI (aw_sI (aw_zI h 28) 27 1 (0)) 27 2 (64)) 27 3 (0)) 29))) 33))) 37))) 41))) 45))) 49))
set_option maxRecDepth 100000 in
set_option maxHeartbeats 4000000 in
theorem ctX4_init_b (r : aw_R) (h : aw_H) : Ct 2 25 102 yX4_init cX4_init 2 none [.ref 27] (wL.take 28) r h (aw_N (wL.take 53) (EX4b_r r) (EX4b_h h)) := by
  refine Ct.of (ls0 := [.ref 27, .retAddr 0]) (by decide +kernel) rfl rfl (fun X C E hnm => ?_)
  have C : aw_C X RX4 cX4_init 2 2 25 102 := C
  refine aw_aload_0 C dX4_init_0 ?_
  refine aw_oinit C dX4_init_1 lX4_3 kx_oi.1 kx_oi.2 rfl rfl ?_
  refine aw_aload_0 C dX4_init_4 ?_
  refine aw_bipush C dX4_init_5 lb_6 ?_
  refine ax_newA (t := 0) (m := 28) C dX4_init_7 (Or.inl ⟨rfl, rfl⟩) oX4_9 (aw_ixk (k := 6) (n := 1000) rfl rfl) rfl rfl rfl rfl ?_
  refine aw_putR hnm rfl C dX4_init_10 fX4_11 gX4_0 (ax_o (m := 29) (o := 27) rfl rfl) ?_
  refine aw_aload_0 C dX4_init_13 ?_
  refine aw_iconst C dX4_init_14 li_0 ?_
  refine aw_putI C dX4_init_15 fX4_17 gX4_1 (ax_o (m := 29) (o := 27) rfl rfl) ?_
  refine aw_aload_0 C dX4_init_18 ?_
  refine aw_bipush C dX4_init_19 lb_64 ?_
  refine aw_putI C dX4_init_21 fX4_21 gX4_2 (ax_o (m := 29) (o := 27) rfl rfl) ?_
  refine aw_aload_0 C dX4_init_24 ?_
  refine aw_iconst C dX4_init_25 li_0 ?_
  refine aw_putI C dX4_init_26 fX4_24 gX4_3 (ax_o (m := 29) (o := 27) rfl rfl) ?_
  refine aw_iconst C dX4_init_29 li_0 ?_
  refine aw_istore_1 C dX4_init_30 rfl rfl ?_
  refine aw_iload_1 C dX4_init_31 ?_
  refine aw_bipush C dX4_init_32 lb_6 ?_
  refine aw_icmp_ge (tgt := 56) C dX4_init_34 (by decide) (fun q => absurd q (by decide)) (fun _ => ?_)
  refine aw_aload_0 C dX4_init_37 ?_
  refine aw_getR (q := 28) C dX4_init_38 fX4_11 gX4_0 (ax_o (m := 29) (o := 27) rfl rfl) (by rfl) ?_
  refine aw_iload_1 C dX4_init_41 ?_
  refine ax_newo (m := 29) (T := TX3) (ty := tyX3) C dX4_init_42 oX4_9 kiX3 knX3 rfl bgX3 tyX3_ok tkX3 rfl rfl rfl rfl ?_
  refine aw_dup C dX4_init_45 rfl ?_
  refine ax_J0 (r1 := (EX3_r 30 29 (aw_zR (aw_sR (aw_zR r 28) 27 0 28) 29))) (h1 := (EX3_h 30 29 (aw_zI (aw_sI (aw_sI (aw_sI (aw_zI h 28) 27 1 (0)) 27 2 (64)) 27 3 (0)) 29))) C dX4_init_46 kyX3_init lX4_27 kiX3_init rfl rfl rfl rfl rfl (ctX3_init 30 29 (aw_zR (aw_sR (aw_zR r 28) 27 0 28) 29) (aw_zI (aw_sI (aw_sI (aw_sI (aw_zI h 28) 27 1 (0)) 27 2 (64)) 27 3 (0)) 29) rfl rfl rfl rfl rfl) ?_
  refine aw_aast (t := 0) (cq := 3) C dX4_init_49 (Or.inl ⟨rfl, rfl⟩) (ax_o (m := 33) (o := 28) rfl rfl) (ax_o (m := 33) (o := 29) rfl rfl) rfl (aw_ixk (k := 0) (n := 6) rfl rfl) ?_
  refine ax_iinc_1 (y := (1 : Int32)) C dX4_init_50 li_1 rfl rfl (by decide) ?_
  refine aw_goto (tgt := 31) C dX4_init_53 (by decide) ?_
  refine aw_iload_1 C dX4_init_31 ?_
  refine aw_bipush C dX4_init_32 lb_6 ?_
  refine aw_icmp_ge (tgt := 56) C dX4_init_34 (by decide) (fun q => absurd q (by decide)) (fun _ => ?_)
  refine aw_aload_0 C dX4_init_37 ?_
  refine aw_getR (q := 28) C dX4_init_38 fX4_11 gX4_0 (ax_o (m := 33) (o := 27) rfl rfl) (by rfl) ?_
  refine aw_iload_1 C dX4_init_41 ?_
  refine ax_newo (m := 33) (T := TX3) (ty := tyX3) C dX4_init_42 oX4_9 kiX3 knX3 rfl bgX3 tyX3_ok tkX3 rfl rfl rfl rfl ?_
  refine aw_dup C dX4_init_45 rfl ?_
  refine ax_J0 (r1 := (EX3_r 34 33 (aw_zR (aw_sR ((EX3_r 30 29 (aw_zR (aw_sR (aw_zR r 28) 27 0 28) 29))) 28 0 29) 33))) (h1 := (EX3_h 34 33 (aw_zI ((EX3_h 30 29 (aw_zI (aw_sI (aw_sI (aw_sI (aw_zI h 28) 27 1 (0)) 27 2 (64)) 27 3 (0)) 29))) 33))) C dX4_init_46 kyX3_init lX4_27 kiX3_init rfl rfl rfl rfl rfl (ctX3_init 34 33 (aw_zR (aw_sR ((EX3_r 30 29 (aw_zR (aw_sR (aw_zR r 28) 27 0 28) 29))) 28 0 29) 33) (aw_zI ((EX3_h 30 29 (aw_zI (aw_sI (aw_sI (aw_sI (aw_zI h 28) 27 1 (0)) 27 2 (64)) 27 3 (0)) 29))) 33) rfl rfl rfl rfl rfl) ?_
  refine aw_aast (t := 0) (cq := 3) C dX4_init_49 (Or.inl ⟨rfl, rfl⟩) (ax_o (m := 37) (o := 28) rfl rfl) (ax_o (m := 37) (o := 33) rfl rfl) rfl (aw_ixk (k := 1) (n := 6) rfl rfl) ?_
  refine ax_iinc_1 (y := (2 : Int32)) C dX4_init_50 li_1 rfl rfl (by decide) ?_
  refine aw_goto (tgt := 31) C dX4_init_53 (by decide) ?_
  refine aw_iload_1 C dX4_init_31 ?_
  refine aw_bipush C dX4_init_32 lb_6 ?_
  refine aw_icmp_ge (tgt := 56) C dX4_init_34 (by decide) (fun q => absurd q (by decide)) (fun _ => ?_)
  refine aw_aload_0 C dX4_init_37 ?_
  refine aw_getR (q := 28) C dX4_init_38 fX4_11 gX4_0 (ax_o (m := 37) (o := 27) rfl rfl) (by rfl) ?_
  refine aw_iload_1 C dX4_init_41 ?_
  refine ax_newo (m := 37) (T := TX3) (ty := tyX3) C dX4_init_42 oX4_9 kiX3 knX3 rfl bgX3 tyX3_ok tkX3 rfl rfl rfl rfl ?_
  refine aw_dup C dX4_init_45 rfl ?_
  refine ax_J0 (r1 := (EX3_r 38 37 (aw_zR (aw_sR ((EX3_r 34 33 (aw_zR (aw_sR ((EX3_r 30 29 (aw_zR (aw_sR (aw_zR r 28) 27 0 28) 29))) 28 0 29) 33))) 28 1 33) 37))) (h1 := (EX3_h 38 37 (aw_zI ((EX3_h 34 33 (aw_zI ((EX3_h 30 29 (aw_zI (aw_sI (aw_sI (aw_sI (aw_zI h 28) 27 1 (0)) 27 2 (64)) 27 3 (0)) 29))) 33))) 37))) C dX4_init_46 kyX3_init lX4_27 kiX3_init rfl rfl rfl rfl rfl (ctX3_init 38 37 (aw_zR (aw_sR ((EX3_r 34 33 (aw_zR (aw_sR ((EX3_r 30 29 (aw_zR (aw_sR (aw_zR r 28) 27 0 28) 29))) 28 0 29) 33))) 28 1 33) 37) (aw_zI ((EX3_h 34 33 (aw_zI ((EX3_h 30 29 (aw_zI (aw_sI (aw_sI (aw_sI (aw_zI h 28) 27 1 (0)) 27 2 (64)) 27 3 (0)) 29))) 33))) 37) rfl rfl rfl rfl rfl) ?_
  refine aw_aast (t := 0) (cq := 3) C dX4_init_49 (Or.inl ⟨rfl, rfl⟩) (ax_o (m := 41) (o := 28) rfl rfl) (ax_o (m := 41) (o := 37) rfl rfl) rfl (aw_ixk (k := 2) (n := 6) rfl rfl) ?_
  refine ax_iinc_1 (y := (3 : Int32)) C dX4_init_50 li_1 rfl rfl (by decide) ?_
  refine aw_goto (tgt := 31) C dX4_init_53 (by decide) ?_
  refine aw_iload_1 C dX4_init_31 ?_
  refine aw_bipush C dX4_init_32 lb_6 ?_
  refine aw_icmp_ge (tgt := 56) C dX4_init_34 (by decide) (fun q => absurd q (by decide)) (fun _ => ?_)
  refine aw_aload_0 C dX4_init_37 ?_
  refine aw_getR (q := 28) C dX4_init_38 fX4_11 gX4_0 (ax_o (m := 41) (o := 27) rfl rfl) (by rfl) ?_
  refine aw_iload_1 C dX4_init_41 ?_
  refine ax_newo (m := 41) (T := TX3) (ty := tyX3) C dX4_init_42 oX4_9 kiX3 knX3 rfl bgX3 tyX3_ok tkX3 rfl rfl rfl rfl ?_
  refine aw_dup C dX4_init_45 rfl ?_
  refine ax_J0 (r1 := (EX3_r 42 41 (aw_zR (aw_sR ((EX3_r 38 37 (aw_zR (aw_sR ((EX3_r 34 33 (aw_zR (aw_sR ((EX3_r 30 29 (aw_zR (aw_sR (aw_zR r 28) 27 0 28) 29))) 28 0 29) 33))) 28 1 33) 37))) 28 2 37) 41))) (h1 := (EX3_h 42 41 (aw_zI ((EX3_h 38 37 (aw_zI ((EX3_h 34 33 (aw_zI ((EX3_h 30 29 (aw_zI (aw_sI (aw_sI (aw_sI (aw_zI h 28) 27 1 (0)) 27 2 (64)) 27 3 (0)) 29))) 33))) 37))) 41))) C dX4_init_46 kyX3_init lX4_27 kiX3_init rfl rfl rfl rfl rfl (ctX3_init 42 41 (aw_zR (aw_sR ((EX3_r 38 37 (aw_zR (aw_sR ((EX3_r 34 33 (aw_zR (aw_sR ((EX3_r 30 29 (aw_zR (aw_sR (aw_zR r 28) 27 0 28) 29))) 28 0 29) 33))) 28 1 33) 37))) 28 2 37) 41) (aw_zI ((EX3_h 38 37 (aw_zI ((EX3_h 34 33 (aw_zI ((EX3_h 30 29 (aw_zI (aw_sI (aw_sI (aw_sI (aw_zI h 28) 27 1 (0)) 27 2 (64)) 27 3 (0)) 29))) 33))) 37))) 41) rfl rfl rfl rfl rfl) ?_
  refine aw_aast (t := 0) (cq := 3) C dX4_init_49 (Or.inl ⟨rfl, rfl⟩) (ax_o (m := 45) (o := 28) rfl rfl) (ax_o (m := 45) (o := 41) rfl rfl) rfl (aw_ixk (k := 3) (n := 6) rfl rfl) ?_
  refine ax_iinc_1 (y := (4 : Int32)) C dX4_init_50 li_1 rfl rfl (by decide) ?_
  refine aw_goto (tgt := 31) C dX4_init_53 (by decide) ?_
  refine aw_iload_1 C dX4_init_31 ?_
  refine aw_bipush C dX4_init_32 lb_6 ?_
  refine aw_icmp_ge (tgt := 56) C dX4_init_34 (by decide) (fun q => absurd q (by decide)) (fun _ => ?_)
  refine aw_aload_0 C dX4_init_37 ?_
  refine aw_getR (q := 28) C dX4_init_38 fX4_11 gX4_0 (ax_o (m := 45) (o := 27) rfl rfl) (by rfl) ?_
  refine aw_iload_1 C dX4_init_41 ?_
  refine ax_newo (m := 45) (T := TX3) (ty := tyX3) C dX4_init_42 oX4_9 kiX3 knX3 rfl bgX3 tyX3_ok tkX3 rfl rfl rfl rfl ?_
  refine aw_dup C dX4_init_45 rfl ?_
  refine ax_J0 (r1 := (EX3_r 46 45 (aw_zR (aw_sR ((EX3_r 42 41 (aw_zR (aw_sR ((EX3_r 38 37 (aw_zR (aw_sR ((EX3_r 34 33 (aw_zR (aw_sR ((EX3_r 30 29 (aw_zR (aw_sR (aw_zR r 28) 27 0 28) 29))) 28 0 29) 33))) 28 1 33) 37))) 28 2 37) 41))) 28 3 41) 45))) (h1 := (EX3_h 46 45 (aw_zI ((EX3_h 42 41 (aw_zI ((EX3_h 38 37 (aw_zI ((EX3_h 34 33 (aw_zI ((EX3_h 30 29 (aw_zI (aw_sI (aw_sI (aw_sI (aw_zI h 28) 27 1 (0)) 27 2 (64)) 27 3 (0)) 29))) 33))) 37))) 41))) 45))) C dX4_init_46 kyX3_init lX4_27 kiX3_init rfl rfl rfl rfl rfl (ctX3_init 46 45 (aw_zR (aw_sR ((EX3_r 42 41 (aw_zR (aw_sR ((EX3_r 38 37 (aw_zR (aw_sR ((EX3_r 34 33 (aw_zR (aw_sR ((EX3_r 30 29 (aw_zR (aw_sR (aw_zR r 28) 27 0 28) 29))) 28 0 29) 33))) 28 1 33) 37))) 28 2 37) 41))) 28 3 41) 45) (aw_zI ((EX3_h 42 41 (aw_zI ((EX3_h 38 37 (aw_zI ((EX3_h 34 33 (aw_zI ((EX3_h 30 29 (aw_zI (aw_sI (aw_sI (aw_sI (aw_zI h 28) 27 1 (0)) 27 2 (64)) 27 3 (0)) 29))) 33))) 37))) 41))) 45) rfl rfl rfl rfl rfl) ?_
  refine aw_aast (t := 0) (cq := 3) C dX4_init_49 (Or.inl ⟨rfl, rfl⟩) (ax_o (m := 49) (o := 28) rfl rfl) (ax_o (m := 49) (o := 45) rfl rfl) rfl (aw_ixk (k := 4) (n := 6) rfl rfl) ?_
  refine ax_iinc_1 (y := (5 : Int32)) C dX4_init_50 li_1 rfl rfl (by decide) ?_
  refine aw_goto (tgt := 31) C dX4_init_53 (by decide) ?_
  refine aw_iload_1 C dX4_init_31 ?_
  refine aw_bipush C dX4_init_32 lb_6 ?_
  refine aw_icmp_ge (tgt := 56) C dX4_init_34 (by decide) (fun q => absurd q (by decide)) (fun _ => ?_)
  refine aw_aload_0 C dX4_init_37 ?_
  refine aw_getR (q := 28) C dX4_init_38 fX4_11 gX4_0 (ax_o (m := 49) (o := 27) rfl rfl) (by rfl) ?_
  refine aw_iload_1 C dX4_init_41 ?_
  refine ax_newo (m := 49) (T := TX3) (ty := tyX3) C dX4_init_42 oX4_9 kiX3 knX3 rfl bgX3 tyX3_ok tkX3 rfl rfl rfl rfl ?_
  refine aw_dup C dX4_init_45 rfl ?_
  refine ax_J0 (r1 := (EX3_r 50 49 (aw_zR (aw_sR ((EX3_r 46 45 (aw_zR (aw_sR ((EX3_r 42 41 (aw_zR (aw_sR ((EX3_r 38 37 (aw_zR (aw_sR ((EX3_r 34 33 (aw_zR (aw_sR ((EX3_r 30 29 (aw_zR (aw_sR (aw_zR r 28) 27 0 28) 29))) 28 0 29) 33))) 28 1 33) 37))) 28 2 37) 41))) 28 3 41) 45))) 28 4 45) 49))) (h1 := (EX3_h 50 49 (aw_zI ((EX3_h 46 45 (aw_zI ((EX3_h 42 41 (aw_zI ((EX3_h 38 37 (aw_zI ((EX3_h 34 33 (aw_zI ((EX3_h 30 29 (aw_zI (aw_sI (aw_sI (aw_sI (aw_zI h 28) 27 1 (0)) 27 2 (64)) 27 3 (0)) 29))) 33))) 37))) 41))) 45))) 49))) C dX4_init_46 kyX3_init lX4_27 kiX3_init rfl rfl rfl rfl rfl (ctX3_init 50 49 (aw_zR (aw_sR ((EX3_r 46 45 (aw_zR (aw_sR ((EX3_r 42 41 (aw_zR (aw_sR ((EX3_r 38 37 (aw_zR (aw_sR ((EX3_r 34 33 (aw_zR (aw_sR ((EX3_r 30 29 (aw_zR (aw_sR (aw_zR r 28) 27 0 28) 29))) 28 0 29) 33))) 28 1 33) 37))) 28 2 37) 41))) 28 3 41) 45))) 28 4 45) 49) (aw_zI ((EX3_h 46 45 (aw_zI ((EX3_h 42 41 (aw_zI ((EX3_h 38 37 (aw_zI ((EX3_h 34 33 (aw_zI ((EX3_h 30 29 (aw_zI (aw_sI (aw_sI (aw_sI (aw_zI h 28) 27 1 (0)) 27 2 (64)) 27 3 (0)) 29))) 33))) 37))) 41))) 45))) 49) rfl rfl rfl rfl rfl) ?_
  refine aw_aast (t := 0) (cq := 3) C dX4_init_49 (Or.inl ⟨rfl, rfl⟩) (ax_o (m := 53) (o := 28) rfl rfl) (ax_o (m := 53) (o := 49) rfl rfl) rfl (aw_ixk (k := 5) (n := 6) rfl rfl) ?_
  refine ax_iinc_1 (y := (6 : Int32)) C dX4_init_50 li_1 rfl rfl (by decide) ?_
  refine aw_goto (tgt := 31) C dX4_init_53 (by decide) ?_
  refine aw_iload_1 C dX4_init_31 ?_
  refine aw_bipush C dX4_init_32 lb_6 ?_
  refine aw_icmp_ge (tgt := 56) C dX4_init_34 (by decide) (fun _ => ?_) (fun q => absurd (by decide) q)
  exact aw_vret C E dX4_init_56 rfl rfl ⟨rfl, rfl, rfl, rfl⟩
def EX5_r (r : aw_R) : aw_R := aw_sR ((EX1_r 70 69 (aw_zR (aw_sR ((EX1_r 68 67 (aw_zR (aw_sR ((EX1_r 66 65 (aw_zR (aw_sR ((EX1_r 64 63 (aw_zR (aw_sR ((EX0_r 63 62 (aw_zR (aw_sR (aw_zR (aw_sR ((EX3_r 58 57 (aw_zR (aw_sR ((EX2_r 55 54 (aw_zR (aw_sR (aw_zR (aw_sR ((EX4b_r (aw_zR (aw_sR ((EX4a_r (aw_zR r 1))) 0 0 1) 27))) 0 1 27) 53) 0 3 53) 54))) 0 4 54) 57))) 0 5 57) 61) 0 6 61) 62))) 0 7 62) 63))) 53 0 63) 65))) 53 1 65) 67))) 53 2 67) 69))) 53 3 69
def EX5_h (h : aw_H) : aw_H := (EX1_h 70 69 (aw_zI ((EX1_h 68 67 (aw_zI ((EX1_h 66 65 (aw_zI ((EX1_h 64 63 (aw_zI ((EX0_h 63 62 (aw_zI (aw_zI ((EX3_h 58 57 (aw_zI ((EX2_h 55 54 (aw_zI (aw_zI (aw_sI ((EX4b_h (aw_zI ((EX4a_h (aw_zI h 1))) 27))) 0 2 (0)) 53) 54))) 57))) 61) 62))) 63))) 65))) 67))) 69))
set_option maxRecDepth 100000 in
set_option maxHeartbeats 4000000 in
theorem ctX5_init (r : aw_R) (h : aw_H) : Ct 3 70 735 yX5_init cX5_init 2 none [.ref 0] (wL.take 1) r h (aw_N (wL.take 71) (EX5_r r) (EX5_h h)) := by
  refine Ct.of (ls0 := [.ref 0, .retAddr 0]) (by decide +kernel) rfl rfl (fun X C E hnm => ?_)
  have C : aw_C X RX5 cX5_init 2 3 70 735 := C
  refine aw_aload_0 C dX5_init_0 ?_
  refine aw_oinit C dX5_init_1 lX5_3 kx_oi.1 kx_oi.2 rfl rfl ?_
  refine aw_aload_0 C dX5_init_4 ?_
  refine ax_newo (m := 1) (T := TX4) (ty := tyX4) C dX5_init_5 oX5_9 kiX4 knX4 rfl bgX4 tyX4_ok tkX4 rfl rfl rfl rfl ?_
  refine aw_dup C dX5_init_8 rfl ?_
  refine ax_I0 (r1 := (EX4a_r (aw_zR r 1))) (h1 := (EX4a_h (aw_zI h 1))) C dX5_init_9 kyX4_init lX5_11 kiX4_init rfl rfl rfl rfl rfl (ctX4_init_a (aw_zR r 1) (aw_zI h 1)) ?_
  refine aw_putR hnm rfl C dX5_init_12 fX5_12 gX5_0 (ax_o (m := 27) (o := 0) rfl rfl) ?_
  refine aw_aload_0 C dX5_init_15 ?_
  refine ax_newo (m := 27) (T := TX4) (ty := tyX4) C dX5_init_16 oX5_9 kiX4 knX4 rfl bgX4 tyX4_ok tkX4 rfl rfl rfl rfl ?_
  refine aw_dup C dX5_init_19 rfl ?_
  refine ax_I0 (r1 := (EX4b_r (aw_zR (aw_sR ((EX4a_r (aw_zR r 1))) 0 0 1) 27))) (h1 := (EX4b_h (aw_zI ((EX4a_h (aw_zI h 1))) 27))) C dX5_init_20 kyX4_init lX5_11 kiX4_init rfl rfl rfl rfl rfl (ctX4_init_b (aw_zR (aw_sR ((EX4a_r (aw_zR r 1))) 0 0 1) 27) (aw_zI ((EX4a_h (aw_zI h 1))) 27)) ?_
  refine aw_putR hnm rfl C dX5_init_23 fX5_18 gX5_1 (ax_o (m := 53) (o := 0) rfl rfl) ?_
  refine aw_aload_0 C dX5_init_26 ?_
  refine aw_iconst C dX5_init_27 li_0 ?_
  refine aw_putZ (Or.inl rfl) C dX5_init_28 fX5_21 gX5_2 (ax_o (m := 53) (o := 0) rfl rfl) ?_
  refine aw_aload_0 C dX5_init_31 ?_
  refine aw_iconst C dX5_init_32 li_4 ?_
  refine ax_newA (t := 1) (m := 53) C dX5_init_33 (Or.inr ⟨rfl, rfl⟩) oX5_25 (aw_ixk (k := 4) (n := 1000) rfl rfl) rfl rfl rfl rfl ?_
  refine aw_putR hnm rfl C dX5_init_36 fX5_27 gX5_3 (ax_o (m := 54) (o := 0) rfl rfl) ?_
  refine aw_aload_0 C dX5_init_39 ?_
  refine ax_newo (m := 54) (T := TX2) (ty := tyX2) C dX5_init_40 oX5_31 kiX2 knX2 rfl bgX2 tyX2_ok tkX2 rfl rfl rfl rfl ?_
  refine aw_dup C dX5_init_43 rfl ?_
  refine ax_J0 (r1 := (EX2_r 55 54 (aw_zR (aw_sR (aw_zR (aw_sR ((EX4b_r (aw_zR (aw_sR ((EX4a_r (aw_zR r 1))) 0 0 1) 27))) 0 1 27) 53) 0 3 53) 54))) (h1 := (EX2_h 55 54 (aw_zI (aw_zI (aw_sI ((EX4b_h (aw_zI ((EX4a_h (aw_zI h 1))) 27))) 0 2 (0)) 53) 54))) C dX5_init_44 kyX2_init lX5_33 kiX2_init rfl rfl rfl rfl rfl (ctX2_init 55 54 (aw_zR (aw_sR (aw_zR (aw_sR ((EX4b_r (aw_zR (aw_sR ((EX4a_r (aw_zR r 1))) 0 0 1) 27))) 0 1 27) 53) 0 3 53) 54) (aw_zI (aw_zI (aw_sI ((EX4b_h (aw_zI ((EX4a_h (aw_zI h 1))) 27))) 0 2 (0)) 53) 54) rfl rfl rfl rfl) ?_
  refine aw_putR hnm rfl C dX5_init_47 fX5_34 gX5_4 (ax_o (m := 57) (o := 0) rfl rfl) ?_
  refine aw_aload_0 C dX5_init_50 ?_
  refine ax_newo (m := 57) (T := TX3) (ty := tyX3) C dX5_init_51 oX5_38 kiX3 knX3 rfl bgX3 tyX3_ok tkX3 rfl rfl rfl rfl ?_
  refine aw_dup C dX5_init_54 rfl ?_
  refine ax_J0 (r1 := (EX3_r 58 57 (aw_zR (aw_sR ((EX2_r 55 54 (aw_zR (aw_sR (aw_zR (aw_sR ((EX4b_r (aw_zR (aw_sR ((EX4a_r (aw_zR r 1))) 0 0 1) 27))) 0 1 27) 53) 0 3 53) 54))) 0 4 54) 57))) (h1 := (EX3_h 58 57 (aw_zI ((EX2_h 55 54 (aw_zI (aw_zI (aw_sI ((EX4b_h (aw_zI ((EX4a_h (aw_zI h 1))) 27))) 0 2 (0)) 53) 54))) 57))) C dX5_init_55 kyX3_init lX5_40 kiX3_init rfl rfl rfl rfl rfl (ctX3_init 58 57 (aw_zR (aw_sR ((EX2_r 55 54 (aw_zR (aw_sR (aw_zR (aw_sR ((EX4b_r (aw_zR (aw_sR ((EX4a_r (aw_zR r 1))) 0 0 1) 27))) 0 1 27) 53) 0 3 53) 54))) 0 4 54) 57) (aw_zI ((EX2_h 55 54 (aw_zI (aw_zI (aw_sI ((EX4b_h (aw_zI ((EX4a_h (aw_zI h 1))) 27))) 0 2 (0)) 53) 54))) 57) rfl rfl rfl rfl rfl) ?_
  refine aw_putR hnm rfl C dX5_init_58 fX5_41 gX5_5 (ax_o (m := 61) (o := 0) rfl rfl) ?_
  refine aw_aload_0 C dX5_init_61 ?_
  refine aw_sipush C dX5_init_62 ls_201 ?_
  refine ax_newL (m := 61) C dX5_init_65 (aw_ixk (k := 201) (n := 1000) rfl rfl) rfl rfl rfl rfl ?_
  refine aw_putR hnm rfl C dX5_init_67 fX5_45 gX5_6 (ax_o (m := 62) (o := 0) rfl rfl) ?_
  refine aw_aload_0 C dX5_init_70 ?_
  refine ax_newo (m := 62) (T := TX0) (ty := tyX0) C dX5_init_71 oX5_49 kiX0 knX0 rfl bgX0 tyX0_ok tkX0 rfl rfl rfl rfl ?_
  refine aw_dup C dX5_init_74 rfl ?_
  refine ax_J0 (r1 := (EX0_r 63 62 (aw_zR (aw_sR (aw_zR (aw_sR ((EX3_r 58 57 (aw_zR (aw_sR ((EX2_r 55 54 (aw_zR (aw_sR (aw_zR (aw_sR ((EX4b_r (aw_zR (aw_sR ((EX4a_r (aw_zR r 1))) 0 0 1) 27))) 0 1 27) 53) 0 3 53) 54))) 0 4 54) 57))) 0 5 57) 61) 0 6 61) 62))) (h1 := (EX0_h 63 62 (aw_zI (aw_zI ((EX3_h 58 57 (aw_zI ((EX2_h 55 54 (aw_zI (aw_zI (aw_sI ((EX4b_h (aw_zI ((EX4a_h (aw_zI h 1))) 27))) 0 2 (0)) 53) 54))) 57))) 61) 62))) C dX5_init_75 kyX0_init lX5_51 kiX0_init rfl rfl rfl rfl rfl (ctX0_init 63 62 (aw_zR (aw_sR (aw_zR (aw_sR ((EX3_r 58 57 (aw_zR (aw_sR ((EX2_r 55 54 (aw_zR (aw_sR (aw_zR (aw_sR ((EX4b_r (aw_zR (aw_sR ((EX4a_r (aw_zR r 1))) 0 0 1) 27))) 0 1 27) 53) 0 3 53) 54))) 0 4 54) 57))) 0 5 57) 61) 0 6 61) 62) (aw_zI (aw_zI ((EX3_h 58 57 (aw_zI ((EX2_h 55 54 (aw_zI (aw_zI (aw_sI ((EX4b_h (aw_zI ((EX4a_h (aw_zI h 1))) 27))) 0 2 (0)) 53) 54))) 57))) 61) 62) rfl rfl) ?_
  refine aw_putR hnm rfl C dX5_init_78 fX5_52 gX5_7 (ax_o (m := 63) (o := 0) rfl rfl) ?_
  refine aw_iconst C dX5_init_81 li_0 ?_
  refine aw_istore_1 C dX5_init_82 rfl rfl ?_
  refine aw_iload_1 C dX5_init_83 ?_
  refine aw_iconst C dX5_init_84 li_4 ?_
  refine aw_icmp_ge (tgt := 107) C dX5_init_85 (by decide) (fun q => absurd q (by decide)) (fun _ => ?_)
  refine aw_aload_0 C dX5_init_88 ?_
  refine aw_getR (q := 53) C dX5_init_89 fX5_27 gX5_3 (ax_o (m := 63) (o := 0) rfl rfl) (by rfl) ?_
  refine aw_iload_1 C dX5_init_92 ?_
  refine ax_newo (m := 63) (T := TX1) (ty := tyX1) C dX5_init_93 oX5_25 kiX1 knX1 rfl bgX1 tyX1_ok tkX1 rfl rfl rfl rfl ?_
  refine aw_dup C dX5_init_96 rfl ?_
  refine ax_J0 (r1 := (EX1_r 64 63 (aw_zR (aw_sR ((EX0_r 63 62 (aw_zR (aw_sR (aw_zR (aw_sR ((EX3_r 58 57 (aw_zR (aw_sR ((EX2_r 55 54 (aw_zR (aw_sR (aw_zR (aw_sR ((EX4b_r (aw_zR (aw_sR ((EX4a_r (aw_zR r 1))) 0 0 1) 27))) 0 1 27) 53) 0 3 53) 54))) 0 4 54) 57))) 0 5 57) 61) 0 6 61) 62))) 0 7 62) 63))) (h1 := (EX1_h 64 63 (aw_zI ((EX0_h 63 62 (aw_zI (aw_zI ((EX3_h 58 57 (aw_zI ((EX2_h 55 54 (aw_zI (aw_zI (aw_sI ((EX4b_h (aw_zI ((EX4a_h (aw_zI h 1))) 27))) 0 2 (0)) 53) 54))) 57))) 61) 62))) 63))) C dX5_init_97 kyX1_init lX5_56 kiX1_init rfl rfl rfl rfl rfl (ctX1_init 64 63 (aw_zR (aw_sR ((EX0_r 63 62 (aw_zR (aw_sR (aw_zR (aw_sR ((EX3_r 58 57 (aw_zR (aw_sR ((EX2_r 55 54 (aw_zR (aw_sR (aw_zR (aw_sR ((EX4b_r (aw_zR (aw_sR ((EX4a_r (aw_zR r 1))) 0 0 1) 27))) 0 1 27) 53) 0 3 53) 54))) 0 4 54) 57))) 0 5 57) 61) 0 6 61) 62))) 0 7 62) 63) (aw_zI ((EX0_h 63 62 (aw_zI (aw_zI ((EX3_h 58 57 (aw_zI ((EX2_h 55 54 (aw_zI (aw_zI (aw_sI ((EX4b_h (aw_zI ((EX4a_h (aw_zI h 1))) 27))) 0 2 (0)) 53) 54))) 57))) 61) 62))) 63) rfl rfl rfl) ?_
  refine aw_aast (t := 1) (cq := 1) C dX5_init_100 (Or.inr ⟨rfl, rfl⟩) (ax_o (m := 65) (o := 53) rfl rfl) (ax_o (m := 65) (o := 63) rfl rfl) rfl (aw_ixk (k := 0) (n := 4) rfl rfl) ?_
  refine ax_iinc_1 (y := (1 : Int32)) C dX5_init_101 li_1 rfl rfl (by decide) ?_
  refine aw_goto (tgt := 83) C dX5_init_104 (by decide) ?_
  refine aw_iload_1 C dX5_init_83 ?_
  refine aw_iconst C dX5_init_84 li_4 ?_
  refine aw_icmp_ge (tgt := 107) C dX5_init_85 (by decide) (fun q => absurd q (by decide)) (fun _ => ?_)
  refine aw_aload_0 C dX5_init_88 ?_
  refine aw_getR (q := 53) C dX5_init_89 fX5_27 gX5_3 (ax_o (m := 65) (o := 0) rfl rfl) (by rfl) ?_
  refine aw_iload_1 C dX5_init_92 ?_
  refine ax_newo (m := 65) (T := TX1) (ty := tyX1) C dX5_init_93 oX5_25 kiX1 knX1 rfl bgX1 tyX1_ok tkX1 rfl rfl rfl rfl ?_
  refine aw_dup C dX5_init_96 rfl ?_
  refine ax_J0 (r1 := (EX1_r 66 65 (aw_zR (aw_sR ((EX1_r 64 63 (aw_zR (aw_sR ((EX0_r 63 62 (aw_zR (aw_sR (aw_zR (aw_sR ((EX3_r 58 57 (aw_zR (aw_sR ((EX2_r 55 54 (aw_zR (aw_sR (aw_zR (aw_sR ((EX4b_r (aw_zR (aw_sR ((EX4a_r (aw_zR r 1))) 0 0 1) 27))) 0 1 27) 53) 0 3 53) 54))) 0 4 54) 57))) 0 5 57) 61) 0 6 61) 62))) 0 7 62) 63))) 53 0 63) 65))) (h1 := (EX1_h 66 65 (aw_zI ((EX1_h 64 63 (aw_zI ((EX0_h 63 62 (aw_zI (aw_zI ((EX3_h 58 57 (aw_zI ((EX2_h 55 54 (aw_zI (aw_zI (aw_sI ((EX4b_h (aw_zI ((EX4a_h (aw_zI h 1))) 27))) 0 2 (0)) 53) 54))) 57))) 61) 62))) 63))) 65))) C dX5_init_97 kyX1_init lX5_56 kiX1_init rfl rfl rfl rfl rfl (ctX1_init 66 65 (aw_zR (aw_sR ((EX1_r 64 63 (aw_zR (aw_sR ((EX0_r 63 62 (aw_zR (aw_sR (aw_zR (aw_sR ((EX3_r 58 57 (aw_zR (aw_sR ((EX2_r 55 54 (aw_zR (aw_sR (aw_zR (aw_sR ((EX4b_r (aw_zR (aw_sR ((EX4a_r (aw_zR r 1))) 0 0 1) 27))) 0 1 27) 53) 0 3 53) 54))) 0 4 54) 57))) 0 5 57) 61) 0 6 61) 62))) 0 7 62) 63))) 53 0 63) 65) (aw_zI ((EX1_h 64 63 (aw_zI ((EX0_h 63 62 (aw_zI (aw_zI ((EX3_h 58 57 (aw_zI ((EX2_h 55 54 (aw_zI (aw_zI (aw_sI ((EX4b_h (aw_zI ((EX4a_h (aw_zI h 1))) 27))) 0 2 (0)) 53) 54))) 57))) 61) 62))) 63))) 65) rfl rfl rfl) ?_
  refine aw_aast (t := 1) (cq := 1) C dX5_init_100 (Or.inr ⟨rfl, rfl⟩) (ax_o (m := 67) (o := 53) rfl rfl) (ax_o (m := 67) (o := 65) rfl rfl) rfl (aw_ixk (k := 1) (n := 4) rfl rfl) ?_
  refine ax_iinc_1 (y := (2 : Int32)) C dX5_init_101 li_1 rfl rfl (by decide) ?_
  refine aw_goto (tgt := 83) C dX5_init_104 (by decide) ?_
  refine aw_iload_1 C dX5_init_83 ?_
  refine aw_iconst C dX5_init_84 li_4 ?_
  refine aw_icmp_ge (tgt := 107) C dX5_init_85 (by decide) (fun q => absurd q (by decide)) (fun _ => ?_)
  refine aw_aload_0 C dX5_init_88 ?_
  refine aw_getR (q := 53) C dX5_init_89 fX5_27 gX5_3 (ax_o (m := 67) (o := 0) rfl rfl) (by rfl) ?_
  refine aw_iload_1 C dX5_init_92 ?_
  refine ax_newo (m := 67) (T := TX1) (ty := tyX1) C dX5_init_93 oX5_25 kiX1 knX1 rfl bgX1 tyX1_ok tkX1 rfl rfl rfl rfl ?_
  refine aw_dup C dX5_init_96 rfl ?_
  refine ax_J0 (r1 := (EX1_r 68 67 (aw_zR (aw_sR ((EX1_r 66 65 (aw_zR (aw_sR ((EX1_r 64 63 (aw_zR (aw_sR ((EX0_r 63 62 (aw_zR (aw_sR (aw_zR (aw_sR ((EX3_r 58 57 (aw_zR (aw_sR ((EX2_r 55 54 (aw_zR (aw_sR (aw_zR (aw_sR ((EX4b_r (aw_zR (aw_sR ((EX4a_r (aw_zR r 1))) 0 0 1) 27))) 0 1 27) 53) 0 3 53) 54))) 0 4 54) 57))) 0 5 57) 61) 0 6 61) 62))) 0 7 62) 63))) 53 0 63) 65))) 53 1 65) 67))) (h1 := (EX1_h 68 67 (aw_zI ((EX1_h 66 65 (aw_zI ((EX1_h 64 63 (aw_zI ((EX0_h 63 62 (aw_zI (aw_zI ((EX3_h 58 57 (aw_zI ((EX2_h 55 54 (aw_zI (aw_zI (aw_sI ((EX4b_h (aw_zI ((EX4a_h (aw_zI h 1))) 27))) 0 2 (0)) 53) 54))) 57))) 61) 62))) 63))) 65))) 67))) C dX5_init_97 kyX1_init lX5_56 kiX1_init rfl rfl rfl rfl rfl (ctX1_init 68 67 (aw_zR (aw_sR ((EX1_r 66 65 (aw_zR (aw_sR ((EX1_r 64 63 (aw_zR (aw_sR ((EX0_r 63 62 (aw_zR (aw_sR (aw_zR (aw_sR ((EX3_r 58 57 (aw_zR (aw_sR ((EX2_r 55 54 (aw_zR (aw_sR (aw_zR (aw_sR ((EX4b_r (aw_zR (aw_sR ((EX4a_r (aw_zR r 1))) 0 0 1) 27))) 0 1 27) 53) 0 3 53) 54))) 0 4 54) 57))) 0 5 57) 61) 0 6 61) 62))) 0 7 62) 63))) 53 0 63) 65))) 53 1 65) 67) (aw_zI ((EX1_h 66 65 (aw_zI ((EX1_h 64 63 (aw_zI ((EX0_h 63 62 (aw_zI (aw_zI ((EX3_h 58 57 (aw_zI ((EX2_h 55 54 (aw_zI (aw_zI (aw_sI ((EX4b_h (aw_zI ((EX4a_h (aw_zI h 1))) 27))) 0 2 (0)) 53) 54))) 57))) 61) 62))) 63))) 65))) 67) rfl rfl rfl) ?_
  refine aw_aast (t := 1) (cq := 1) C dX5_init_100 (Or.inr ⟨rfl, rfl⟩) (ax_o (m := 69) (o := 53) rfl rfl) (ax_o (m := 69) (o := 67) rfl rfl) rfl (aw_ixk (k := 2) (n := 4) rfl rfl) ?_
  refine ax_iinc_1 (y := (3 : Int32)) C dX5_init_101 li_1 rfl rfl (by decide) ?_
  refine aw_goto (tgt := 83) C dX5_init_104 (by decide) ?_
  refine aw_iload_1 C dX5_init_83 ?_
  refine aw_iconst C dX5_init_84 li_4 ?_
  refine aw_icmp_ge (tgt := 107) C dX5_init_85 (by decide) (fun q => absurd q (by decide)) (fun _ => ?_)
  refine aw_aload_0 C dX5_init_88 ?_
  refine aw_getR (q := 53) C dX5_init_89 fX5_27 gX5_3 (ax_o (m := 69) (o := 0) rfl rfl) (by rfl) ?_
  refine aw_iload_1 C dX5_init_92 ?_
  refine ax_newo (m := 69) (T := TX1) (ty := tyX1) C dX5_init_93 oX5_25 kiX1 knX1 rfl bgX1 tyX1_ok tkX1 rfl rfl rfl rfl ?_
  refine aw_dup C dX5_init_96 rfl ?_
  refine ax_J0 (r1 := (EX1_r 70 69 (aw_zR (aw_sR ((EX1_r 68 67 (aw_zR (aw_sR ((EX1_r 66 65 (aw_zR (aw_sR ((EX1_r 64 63 (aw_zR (aw_sR ((EX0_r 63 62 (aw_zR (aw_sR (aw_zR (aw_sR ((EX3_r 58 57 (aw_zR (aw_sR ((EX2_r 55 54 (aw_zR (aw_sR (aw_zR (aw_sR ((EX4b_r (aw_zR (aw_sR ((EX4a_r (aw_zR r 1))) 0 0 1) 27))) 0 1 27) 53) 0 3 53) 54))) 0 4 54) 57))) 0 5 57) 61) 0 6 61) 62))) 0 7 62) 63))) 53 0 63) 65))) 53 1 65) 67))) 53 2 67) 69))) (h1 := (EX1_h 70 69 (aw_zI ((EX1_h 68 67 (aw_zI ((EX1_h 66 65 (aw_zI ((EX1_h 64 63 (aw_zI ((EX0_h 63 62 (aw_zI (aw_zI ((EX3_h 58 57 (aw_zI ((EX2_h 55 54 (aw_zI (aw_zI (aw_sI ((EX4b_h (aw_zI ((EX4a_h (aw_zI h 1))) 27))) 0 2 (0)) 53) 54))) 57))) 61) 62))) 63))) 65))) 67))) 69))) C dX5_init_97 kyX1_init lX5_56 kiX1_init rfl rfl rfl rfl rfl (ctX1_init 70 69 (aw_zR (aw_sR ((EX1_r 68 67 (aw_zR (aw_sR ((EX1_r 66 65 (aw_zR (aw_sR ((EX1_r 64 63 (aw_zR (aw_sR ((EX0_r 63 62 (aw_zR (aw_sR (aw_zR (aw_sR ((EX3_r 58 57 (aw_zR (aw_sR ((EX2_r 55 54 (aw_zR (aw_sR (aw_zR (aw_sR ((EX4b_r (aw_zR (aw_sR ((EX4a_r (aw_zR r 1))) 0 0 1) 27))) 0 1 27) 53) 0 3 53) 54))) 0 4 54) 57))) 0 5 57) 61) 0 6 61) 62))) 0 7 62) 63))) 53 0 63) 65))) 53 1 65) 67))) 53 2 67) 69) (aw_zI ((EX1_h 68 67 (aw_zI ((EX1_h 66 65 (aw_zI ((EX1_h 64 63 (aw_zI ((EX0_h 63 62 (aw_zI (aw_zI ((EX3_h 58 57 (aw_zI ((EX2_h 55 54 (aw_zI (aw_zI (aw_sI ((EX4b_h (aw_zI ((EX4a_h (aw_zI h 1))) 27))) 0 2 (0)) 53) 54))) 57))) 61) 62))) 63))) 65))) 67))) 69) rfl rfl rfl) ?_
  refine aw_aast (t := 1) (cq := 1) C dX5_init_100 (Or.inr ⟨rfl, rfl⟩) (ax_o (m := 71) (o := 53) rfl rfl) (ax_o (m := 71) (o := 69) rfl rfl) rfl (aw_ixk (k := 3) (n := 4) rfl rfl) ?_
  refine ax_iinc_1 (y := (4 : Int32)) C dX5_init_101 li_1 rfl rfl (by decide) ?_
  refine aw_goto (tgt := 83) C dX5_init_104 (by decide) ?_
  refine aw_iload_1 C dX5_init_83 ?_
  refine aw_iconst C dX5_init_84 li_4 ?_
  refine aw_icmp_ge (tgt := 107) C dX5_init_85 (by decide) (fun _ => ?_) (fun q => absurd (by decide) q)
  exact aw_vret C E dX5_init_107 rfl rfl ⟨rfl, rfl, rfl, rfl⟩
def EX6_r (r : aw_R) : aw_R := aw_sR (aw_zR (aw_sR (aw_sR (aw_zR (aw_sR (aw_zR (aw_sR (aw_zR (aw_sR (aw_zR (aw_sR (aw_zR (aw_sR (aw_zR (aw_sR (aw_zR (aw_sR (aw_zR (aw_sR (aw_zR r 72) 71 0 72) 73) 71 1 73) 74) 71 6 74) 75) 71 7 75) 76) 71 8 76) 77) 71 9 77) 78) 71 10 78) 79) 71 11 79) 80) 71 15 80) 71 16 1006) 81) 71 17 81
def EX6_h (h : aw_H) : aw_H := aw_sI (aw_zI (aw_zI (aw_zI (aw_zI (aw_zI (aw_zI (aw_zI (aw_sI (aw_sI (aw_sI (aw_sI (aw_zI (aw_zI (aw_zI h 72) 73) 74) 74 0 (-1)) 74 1 (-1)) 74 2 (-1)) 74 3 (-1)) 75) 76) 77) 78) 79) 80) 81) 72 67 (64)
set_option maxRecDepth 100000 in
set_option maxHeartbeats 4000000 in
theorem ctX6_init (r : aw_R) (h : aw_H) : Ct 1 10 617 yX6_init cX6_init 1 none [.ref 71] (wL.take 72) r h (aw_N (wL.take 82) (EX6_r r) (EX6_h h)) := by
  refine Ct.of (ls0 := [.ref 71]) (by decide +kernel) rfl rfl (fun X C E hnm => ?_)
  have C : aw_C X RX6 cX6_init 1 1 10 617 := C
  refine aw_aload_0 C dX6_init_0 ?_
  refine aw_oinit C dX6_init_1 lX6_5 kx_oi.1 kx_oi.2 rfl rfl ?_
  refine aw_aload_0 C dX6_init_4 ?_
  refine aw_bipush C dX6_init_5 lb_69 ?_
  refine ax_newI (m := 72) C dX6_init_7 (aw_ixk (k := 69) (n := 1000) rfl rfl) rfl rfl rfl rfl ?_
  refine aw_putR hnm rfl C dX6_init_9 fX6_11 gX6_0 (ax_o (m := 73) (o := 71) rfl rfl) ?_
  refine aw_aload_0 C dX6_init_12 ?_
  refine aw_bipush C dX6_init_13 lb_69 ?_
  refine ax_newI (m := 73) C dX6_init_15 (aw_ixk (k := 69) (n := 1000) rfl rfl) rfl rfl rfl rfl ?_
  refine aw_putR hnm rfl C dX6_init_17 fX6_15 gX6_1 (ax_o (m := 74) (o := 71) rfl rfl) ?_
  refine aw_aload_0 C dX6_init_20 ?_
  refine aw_iconst C dX6_init_21 li_4 ?_
  refine ax_newI (m := 74) C dX6_init_22 (aw_ixk (k := 4) (n := 1000) rfl rfl) rfl rfl rfl rfl ?_
  refine aw_dup C dX6_init_24 rfl ?_
  refine aw_iconst C dX6_init_25 li_0 ?_
  refine aw_iconst C dX6_init_26 li_m1 ?_
  refine aw_iast C dX6_init_27 (ax_o (m := 75) (o := 74) rfl rfl) (aw_ixk (k := 0) (n := 4) rfl rfl) ?_
  refine aw_dup C dX6_init_28 rfl ?_
  refine aw_iconst C dX6_init_29 li_1 ?_
  refine aw_iconst C dX6_init_30 li_m1 ?_
  refine aw_iast C dX6_init_31 (ax_o (m := 75) (o := 74) rfl rfl) (aw_ixk (k := 1) (n := 4) rfl rfl) ?_
  refine aw_dup C dX6_init_32 rfl ?_
  refine aw_iconst C dX6_init_33 li_2 ?_
  refine aw_iconst C dX6_init_34 li_m1 ?_
  refine aw_iast C dX6_init_35 (ax_o (m := 75) (o := 74) rfl rfl) (aw_ixk (k := 2) (n := 4) rfl rfl) ?_
  refine aw_dup C dX6_init_36 rfl ?_
  refine aw_iconst C dX6_init_37 li_3 ?_
  refine aw_iconst C dX6_init_38 li_m1 ?_
  refine aw_iast C dX6_init_39 (ax_o (m := 75) (o := 74) rfl rfl) (aw_ixk (k := 3) (n := 4) rfl rfl) ?_
  refine aw_putR hnm rfl C dX6_init_40 fX6_18 gX6_6 (ax_o (m := 75) (o := 71) rfl rfl) ?_
  refine aw_aload_0 C dX6_init_43 ?_
  refine aw_iconst C dX6_init_44 li_4 ?_
  refine ax_newI (m := 75) C dX6_init_45 (aw_ixk (k := 4) (n := 1000) rfl rfl) rfl rfl rfl rfl ?_
  refine aw_putR hnm rfl C dX6_init_47 fX6_21 gX6_7 (ax_o (m := 76) (o := 71) rfl rfl) ?_
  refine aw_aload_0 C dX6_init_50 ?_
  refine aw_sipush C dX6_init_51 ls_160 ?_
  refine ax_newL (m := 76) C dX6_init_54 (aw_ixk (k := 160) (n := 1000) rfl rfl) rfl rfl rfl rfl ?_
  refine aw_putR hnm rfl C dX6_init_56 fX6_24 gX6_8 (ax_o (m := 77) (o := 71) rfl rfl) ?_
  refine aw_aload_0 C dX6_init_59 ?_
  refine aw_sipush C dX6_init_60 ls_201 ?_
  refine ax_newL (m := 77) C dX6_init_63 (aw_ixk (k := 201) (n := 1000) rfl rfl) rfl rfl rfl rfl ?_
  refine aw_putR hnm rfl C dX6_init_65 fX6_28 gX6_9 (ax_o (m := 78) (o := 71) rfl rfl) ?_
  refine aw_aload_0 C dX6_init_68 ?_
  refine aw_bipush C dX6_init_69 lb_6 ?_
  refine ax_newI (m := 78) C dX6_init_71 (aw_ixk (k := 6) (n := 1000) rfl rfl) rfl rfl rfl rfl ?_
  refine aw_putR hnm rfl C dX6_init_73 fX6_31 gX6_10 (ax_o (m := 79) (o := 71) rfl rfl) ?_
  refine aw_aload_0 C dX6_init_76 ?_
  refine aw_bipush C dX6_init_77 lb_60 ?_
  refine ax_newI (m := 79) C dX6_init_79 (aw_ixk (k := 60) (n := 1000) rfl rfl) rfl rfl rfl rfl ?_
  refine aw_putR hnm rfl C dX6_init_81 fX6_34 gX6_11 (ax_o (m := 80) (o := 71) rfl rfl) ?_
  refine aw_aload_0 C dX6_init_84 ?_
  refine aw_iconst C dX6_init_85 li_4 ?_
  refine ax_newI (m := 80) C dX6_init_86 (aw_ixk (k := 4) (n := 1000) rfl rfl) rfl rfl rfl rfl ?_
  refine aw_putR hnm rfl C dX6_init_88 fX6_37 gX6_15 (ax_o (m := 81) (o := 71) rfl rfl) ?_
  refine aw_aload_0 C dX6_init_91 ?_
  refine aw_ldcS (i := 6) C dX6_init_92 (by decide) rfl rfl ?_
  refine aw_putR hnm rfl C dX6_init_94 fX6_42 gX6_16 (ax_o (m := 81) (o := 71) rfl rfl) ?_
  refine aw_aload_0 C dX6_init_97 ?_
  refine aw_bipush C dX6_init_98 lb_40 ?_
  refine ax_newL (m := 81) C dX6_init_100 (aw_ixk (k := 40) (n := 1000) rfl rfl) rfl rfl rfl rfl ?_
  refine aw_putR hnm rfl C dX6_init_102 fX6_46 gX6_17 (ax_o (m := 82) (o := 71) rfl rfl) ?_
  refine aw_aload_0 C dX6_init_105 ?_
  refine aw_getR (q := 72) C dX6_init_106 fX6_11 gX6_0 (ax_o (m := 82) (o := 71) rfl rfl) (by rfl) ?_
  refine aw_bipush C dX6_init_109 lb_67 ?_
  refine aw_bipush C dX6_init_111 lb_64 ?_
  refine aw_iast C dX6_init_113 (ax_o (m := 82) (o := 72) rfl rfl) (aw_ixk (k := 67) (n := 69) rfl rfl) ?_
  exact aw_vret C E dX6_init_114 rfl rfl ⟨rfl, rfl, rfl, rfl⟩

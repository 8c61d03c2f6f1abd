section AWN
variable {X : aw_X} {own : String} {cc : ByteArray} {nL D mc ms pc : Nat} {ls st : List Value} {L : aw_L} {r : aw_R} {h : aw_H} {ca sa : Nat} {o ci k ix tk : Nat} {Cn fn fd : String} {fin : Bool}
theorem aw_newI {n : Int32} {N : Nat} (C : aw_C X own cc nL D mc ms) (hd : decode cc pc = .ok (.newarray .int, 2)) (ha : Cond.arrayClass .int ∈ BG) (hN : vp_in n 1000 ∧ n.toNatClampNeg = N) (hn : Nat.blt L.length 1000 = true) (hca : Nat.ble (ca + 1) mc = true) (hsa : Nat.ble (sa + N) ms = true)
    (kk : AW X nL (pc + 2) ls (.ref L.length :: st) (L ++ [(1, N)]) (aw_zR r L.length) (aw_zI h L.length) (ca + 1) (sa + N)) : AW X nL pc ls (.int n :: st) L r h ca sa := by
  intro H locs la hW hn' hS hL
  have hn : L.length < 1000 := Nat.le_of_ble_eq_true hn
  have hlt := aw_in hN
  obtain ⟨hin, rfl⟩ := hN
  obtain ⟨-, -, hRc, hRs⟩ := C.2.2.2.2.2.2.2
  refine W.newa C.x C.b (atype := .int) (C.w _ ha) rfl hd rfl (fun q => hin (Or.inl q)) (by show _ * 4 ≤ _; omega) (by rw [hRc]; exact Nat.le_of_ble_eq_true hca) (by rw [hRs]; exact Nat.le_of_ble_eq_true hsa) fun cA kA comp f1 f2 f3 => ?_
  have hcA : cA = (xg X).2.1 1 := Option.some.inj (f1.symm.trans (C.k.2.1 1 (by decide) (by decide)).2)
  subst hcA
  generalize hH1 : H.push ({ cls := _, slots := _, vm := .none } : Cell) = H1
  have z1 : H1.size = H.size + 1 := by rw [← hH1, Array.size_push]
  have e1 : H1[H.size]? = some (arrV ((xg X).2.1 1) n.toNatClampNeg (fun _ => .int 0)) := by rw [← hH1, Array.getElem?_push_size, ← arrV_new]; rfl
  have o1 : ∀ q : Nat, q < H.size → H1[q]? = H[q]? := fun q hq => by rw [← hH1, Array.getElem?_push, if_neg (Nat.ne_of_lt hq)]
  have hb : (xg X).2.2.1 L.length = H.size := by rw [C.d _ hn, hW.1]
  have key := kk H1 locs la (hW.new (kd := (1, n.toNatClampNeg)) hn C.d z1 o1 (show H1[(xg X).2.2.1 L.length]? = some _ by rw [hb, e1]; congr 2; funext j; simp [aw_zI])) (by rw [List.length_append]; exact hn) ⟨Nat.le_trans hS.1 (by omega), fun q h1 h2 => (o1 q (Nat.lt_of_lt_of_le h1 hS.1)).trans (hS.2.1 q h1 h2), hS.2.2⟩ hL
  rw [List.map_cons, show aw_tv (xd X) (.ref L.length) = .ref H.size from congrArg Value.ref hb] at key
  exact key
theorem aw_newL {n : Int32} {N : Nat} (C : aw_C X own cc nL D mc ms) (hd : decode cc pc = .ok (.newarray .long, 2)) (ha : Cond.arrayClass .long ∈ BG) (hN : vp_in n 1000 ∧ n.toNatClampNeg = N) (hn : Nat.blt L.length 1000 = true) (hca : Nat.ble (ca + 1) mc = true) (hsa : Nat.ble (sa + N) ms = true)
    (kk : AW X nL (pc + 2) ls (.ref L.length :: st) (L ++ [(2, N)]) (aw_zR r L.length) (aw_zI h L.length) (ca + 1) (sa + N)) : AW X nL pc ls (.int n :: st) L r h ca sa := by
  intro H locs la hW hn' hS hL
  have hn : L.length < 1000 := Nat.le_of_ble_eq_true hn
  have hlt := aw_in hN
  obtain ⟨hin, rfl⟩ := hN
  obtain ⟨-, -, hRc, hRs⟩ := C.2.2.2.2.2.2.2
  refine W.newa C.x C.b (atype := .long) (C.w _ ha) rfl hd rfl (fun q => hin (Or.inl q)) (by show _ * 8 ≤ _; omega) (by rw [hRc]; exact Nat.le_of_ble_eq_true hca) (by rw [hRs]; exact Nat.le_of_ble_eq_true hsa) fun cA kA comp f1 f2 f3 => ?_
  have hcA : cA = (xg X).2.1 2 := Option.some.inj (f1.symm.trans (C.k.2.1 2 (by decide) (by decide)).2)
  subst hcA
  generalize hH1 : H.push ({ cls := _, slots := _, vm := .none } : Cell) = H1
  have z1 : H1.size = H.size + 1 := by rw [← hH1, Array.size_push]
  have e1 : H1[H.size]? = some (arrV ((xg X).2.1 2) n.toNatClampNeg (fun _ => .long 0)) := by rw [← hH1, Array.getElem?_push_size, ← arrV_new]; rfl
  have o1 : ∀ q : Nat, q < H.size → H1[q]? = H[q]? := fun q hq => by rw [← hH1, Array.getElem?_push, if_neg (Nat.ne_of_lt hq)]
  have hb : (xg X).2.2.1 L.length = H.size := by rw [C.d _ hn, hW.1]
  have key := kk H1 locs la (hW.new (kd := (2, n.toNatClampNeg)) hn C.d z1 o1 (show H1[(xg X).2.2.1 L.length]? = some _ by rw [hb, e1]; congr 2; funext j; simp [aw_zI])) (by rw [List.length_append]; exact hn) ⟨Nat.le_trans hS.1 (by omega), fun q h1 h2 => (o1 q (Nat.lt_of_lt_of_le h1 hS.1)).trans (hS.2.1 q h1 h2), hS.2.2⟩ hL
  rw [List.map_cons, show aw_tv (xd X) (.ref L.length) = .ref H.size from congrArg Value.ref hb] at key
  exact key
theorem aw_newA {n : Int32} {N t : Nat} (C : aw_C X own cc nL D mc ms) (hd : decode cc pc = .ok (.anewarray ix, 3)) (ht : (t = 0 ∧ Cn = RX3) ∨ (t = 1 ∧ Cn = RX1)) (hcl : Cond.classLink own ix Cn ∈ BG) (hN : vp_in n 1000 ∧ n.toNatClampNeg = N) (hn : Nat.blt L.length 1000 = true) (hca : Nat.ble (ca + 1) mc = true) (hsa : Nat.ble (sa + N) ms = true)
    (kk : AW X nL (pc + 3) ls (.ref L.length :: st) (L ++ [(t + 3, N)]) (aw_zR r L.length) (aw_zI h L.length) (ca + 1) (sa + N)) : AW X nL pc ls (.int n :: st) L r h ca sa := by
  intro H locs la hW hn' hS hL
  have hn : L.length < 1000 := Nat.le_of_ble_eq_true hn
  have hlt := aw_in hN
  obtain ⟨hin, rfl⟩ := hN
  obtain ⟨-, -, hRc, hRs⟩ := C.2.2.2.2.2.2.2
  have hAO : va_AO Cn (xs X) := by
    rcases ht with ⟨-, rfl⟩ | ⟨-, rfl⟩
    · exact C.k.2.2.2.1.1
    · exact C.k.2.2.2.1.2
  have hty : aw_ty (t + 3) = .object Cn := by
    rcases ht with ⟨rfl, rfl⟩ | ⟨rfl, rfl⟩ <;> rfl
  have hRA := (C.k.2.1 (t + 3) (by omega) (by rcases ht with ⟨rfl, -⟩ | ⟨rfl, -⟩ <;> omega)).2
  rw [hty] at hRA
  obtain ⟨kA', comp', k1, k2, k3, k4⟩ := hRA
  refine W.anew C.x C.b C.o (C.w _ hcl) (va_AO.use hAO) rfl hd rfl (fun q => hin (Or.inl q)) (by omega) (by rw [hRc]; exact Nat.le_of_ble_eq_true hca) (by rw [hRs]; exact Nat.le_of_ble_eq_true hsa) fun cA kA comp f1 f2 f3 f4 => ?_
  have hcA : cA = (xg X).2.1 (t + 3) := Option.some.inj (f1.symm.trans k4)
  subst hcA
  generalize hH1 : H.push ({ cls := _, slots := _, vm := .none } : Cell) = H1
  have z1 : H1.size = H.size + 1 := by rw [← hH1, Array.size_push]
  have e1 : H1[H.size]? = some (arrV ((xg X).2.1 (t + 3)) n.toNatClampNeg (fun _ => .null)) := by rw [← hH1, Array.getElem?_push_size, ← arrV_new]
  have o1 : ∀ q : Nat, q < H.size → H1[q]? = H[q]? := fun q hq => by rw [← hH1, Array.getElem?_push, if_neg (Nat.ne_of_lt hq)]
  have hb : (xg X).2.2.1 L.length = H.size := by rw [C.d _ hn, hW.1]
  have key := kk H1 locs la (hW.new (kd := (t + 3, n.toNatClampNeg)) hn C.d z1 o1 (show H1[(xg X).2.2.1 L.length]? = some _ by rw [hb, e1]; congr 2; funext j; simp [aw_zR, va_rf])) (by rw [List.length_append]; exact hn) ⟨Nat.le_trans hS.1 (by omega), fun q h1 h2 => (o1 q (Nat.lt_of_lt_of_le h1 hS.1)).trans (hS.2.1 q h1 h2), hS.2.2⟩ hL
  rw [List.map_cons, show aw_tv (xd X) (.ref L.length) = .ref H.size from congrArg Value.ref hb] at key
  exact key
theorem aw_cats (ad : Nat → Nat) (st : List Value) : ((st.map (aw_tv ad)).map fun v => v.category) = st.map fun v => v.category := by
  rw [List.map_map]
  exact List.map_congr_left (fun v _ => aw_tv_cat ad v)
/-- Object's constructor -/
theorem aw_oinit (C : aw_C X own cc nL D mc ms) (hd : decode cc pc = .ok (.invokespecial ix, 3)) (hl : Cond.methodLink own ix objectInit ∈ BG) (hi : Cond.instanceMethod objectInit ∈ BG) (hc : Cond.code objectInit ⟨#[0xb1]⟩ 1 none ∈ BG) (hD : Nat.ble 1 D = true) (hw : Nat.ble (st.map fun v => v.category).sum 8 = true)
    (kk : AW X nL (pc + 3) ls st L r h ca sa) : AW X nL pc ls (.ref o :: st) L r h ca sa := by
  intro H locs la hW hn hS hL
  obtain ⟨hRf, hRl, -, -⟩ := C.2.2.2.2.2.2.2
  have hD := Nat.le_of_ble_eq_true hD
  have hw := Nat.le_of_ble_eq_true hw
  exact W.objInit C.x C.b C.o (C.w _ hl) (C.w _ hi) (C.w _ hc) rfl (by rw [C.l]; exact hL.1) rfl hd (by omega) (by rw [aw_cats]; show 2 * 0 + _ + 12 ≤ _; omega) (kk H locs la hW hn hS hL)
/-! the constants -/
theorem aw_gets {t : Nat} (C : aw_C X own cc nL D mc ms) (hd : decode cc pc = .ok (.getstatic ix, 3)) (ht : t < 3) (hl : Cond.fieldLink own ix RX5 (aw_rn t) "[I" ∈ BG) (kk : AW X nL (pc + 3) ls (.ref (1200 + t) :: st) L r h ca sa) : AW X nL pc ls st L r h ca sa :=
  fun H locs la hW hn hS hL => va_gets C.x C.b (C.c.2.1 t ht).2 hS C.o (C.w _ hl) (fun _ q => q) hd (kk H locs la hW hn hS hL)
theorem aw_getsN {t : Nat} (C : aw_C X own cc nL D mc ms) (hd : decode cc pc = .ok (.getstatic ix, 3)) (ht : t < 3) (hl : Cond.fieldLinkNest own ix RX5 (aw_rn t) "[I" RX5 ∈ NW) (kk : AW X nL (pc + 3) ls (.ref (1200 + t) :: st) L r h ca sa) : AW X nL pc ls st L r h ca sa :=
  fun H locs la hW hn hS hL => va_getsN C.x C.b (C.c.2.1 t ht).2 hS C.o (va_Nw.use rfl (C.k.2.2.1 _ hl)) (fun _ q => q) hd (kk H locs la hW hn hS hL)
theorem aw_tald {t j : Nat} {i : Int32} (C : aw_C X own cc nL D mc ms) (hd : decode cc pc = .ok (.iaload, 1)) (ht : t < 3) (hj : vp_in i (aw_rl t) ∧ i.toNatClampNeg = j) (kk : AW X nL (pc + 1) ls (.int (aw_ro t j) :: st) L r h ca sa) : AW X nL pc ls (.int i :: .ref (1200 + t) :: st) L r h ca sa :=
  fun H locs la hW hn hS hL => va_ti C.x C.b (C.c.2.1 t ht).1 hS hj.1 (v := .int (aw_ro t j)) (by rw [hj.2]) hd (kk H locs la hW hn hS hL)
theorem aw_ldcS {i : Nat} (C : aw_C X own cc nL D mc ms) (hd : decode cc pc = .ok (.ldc ix, 2)) (hi : i < 7) (h1 : aw_so i = own) (h2 : aw_si i = ix) (kk : AW X nL (pc + 2) ls (.ref (1000 + i) :: st) L r h ca sa) : AW X nL pc ls st L r h ca sa := by
  intro H locs la hW hn hS hL
  have hz := C.k.2.2.2.2 i hi
  rw [h1, h2] at hz
  exact va_ldcS C.x C.b C.o hz hd (kk H locs la hW hn hS hL)
theorem aw_skv {i : Nat} (C : aw_C X own cc nL D mc ms) (hd : decode cc pc = .ok (.getfield ix, 3)) (hi : i < 7) (hl : Cond.fieldLink own ix RJ0 "value" "[B" ∈ BG) (kk : AW X nL (pc + 3) ls (.ref (1100 + i) :: st) L r h ca sa) : AW X nL pc ls (.ref (1000 + i) :: st) L r h ca sa :=
  fun H locs la hW hn hS hL => vk_getf C.x C.b (C.c.1.1 i hi).2.2.1 hS C.o (C.w _ hl) (fun _ q => q) hd (kk H locs la hW hn hS hL)
theorem aw_skc {i : Nat} (C : aw_C X own cc nL D mc ms) (hd : decode cc pc = .ok (.getfield ix, 3)) (hi : i < 7) (hl : Cond.fieldLink own ix RJ0 "coder" "B" ∈ BG) (kk : AW X nL (pc + 3) ls (.int 0 :: st) L r h ca sa) : AW X nL pc ls (.ref (1000 + i) :: st) L r h ca sa :=
  fun H locs la hW hn hS hL => vk_getf C.x C.b (C.c.1.1 i hi).2.1 hS C.o (C.w _ hl) (fun _ q => q) hd (kk H locs la hW hn hS hL)
theorem aw_skl {i : Nat} (C : aw_C X own cc nL D mc ms) (hd : decode cc pc = .ok (.arraylength, 1)) (hi : i < 7) (kk : AW X nL (pc + 1) ls (.int (Int32.ofNat (aw_sl.getD i 0)) :: st) L r h ca sa) : AW X nL pc ls (.ref (1100 + i) :: st) L r h ca sa :=
  fun H locs la hW hn hS hL => va_tlen C.x C.b (C.c.1.1 i hi).2.2.2 hS rfl hd (kk H locs la hW hn hS hL)
theorem aw_skb {i j : Nat} {x : Int32} (C : aw_C X own cc nL D mc ms) (hd : decode cc pc = .ok (.baload, 1)) (hi : i < 7) (hj : vp_in x (aw_sl.getD i 0) ∧ x.toNatClampNeg = j) (kk : AW X nL (pc + 1) ls (.int ((aw_sb.getD i []).getD j 0) :: st) L r h ca sa) : AW X nL pc ls (.int x :: .ref (1100 + i) :: st) L r h ca sa :=
  fun H locs la hW hn hS hL => va_tb C.x C.b (C.c.1.1 i hi).2.2.2 hS hj.1 (v := .int ((aw_sb.getD i []).getD j 0)) (by rw [hj.2]) hd (kk H locs la hW hn hS hL)
theorem aw_getcs (C : aw_C X own cc nL D mc ms) (hd : decode cc pc = .ok (.getstatic ix, 3)) (hl : Cond.fieldLink own ix RJ0 "COMPACT_STRINGS" "Z" ∈ BG) (kk : AW X nL (pc + 3) ls (.int 1 :: st) L r h ca sa) : AW X nL pc ls st L r h ca sa :=
  fun H locs la hW hn hS hL => va_gets C.x C.b C.c.2.2.1 hS C.o (C.w _ hl) (fun _ q => q) hd (kk H locs la hW hn hS hL)
theorem aw_getfm (C : aw_C X own cc nL D mc ms) (hd : decode cc pc = .ok (.getstatic ix, 3)) (hl : Cond.fieldLink own ix RJ3 aw_fm aw_fd ∈ BG) (k0 : AW X nL (pc + 3) ls (.null :: st) L r h ca sa) (k1 : AW X nL (pc + 3) ls (.ref 1300 :: st) L r h ca sa) : AW X nL pc ls st L r h ca sa := by
  intro H locs la hW hn hS hL
  rcases C.c.2.2.2 with hz | hz
  · exact va_gets C.x C.b hz hS C.o (C.w _ hl) (fun _ q => q) hd (k0 H locs la hW hn hS hL)
  · exact va_gets C.x C.b hz hS C.o (C.w _ hl) (fun _ q => q) hd (k1 H locs la hW hn hS hL)
/-! contracts -/
def aw_rm (d mc ms : Nat) : Room := { frames := d, cells := mc, slots := ms, locals := 39 * d }
def aw_Pc (g : aw_G) (as : List Value) (L : aw_L) (r : aw_R) (h : aw_H) : Array Value → State → Prop := fun a U => a = (as.map (aw_tv g.2.2.1)).toArray ∧ aw_S g L r h U
def aw_Qc (g : aw_G) (post : Option Value → aw_L → aw_R → aw_H → Prop) : Array Value → State → Outcome → State → Prop := fun _ st oc t => ∃ (v : Option Value) (L' : aw_L) (r' : aw_R) (h' : aw_H), post v L' r' h' ∧ oc = .returned (v.map (aw_tv g.2.2.1)) ∧ aw_W g L' r' h' t.heap ∧ L'.length ≤ 1000 ∧ st.heap.size ≤ t.heap.size ∧ ∀ q : Nat, q < st.heap.size → ¬ aw_A g q → t.heap[q]? = st.heap[q]?
theorem aw_blind (g : aw_G) (as : List Value) (L : aw_L) (r : aw_R) (h : aw_H) : FrameBlind (aw_Pc g as L r h) := fun a U g' mk ⟨h1, h2, h3, h4, h5⟩ => ⟨h1, h2, aw_K.same (u := U) (U := U.calling g' mk a) rfl h3, aw_O.to (u := U) (U := U.calling g' mk a) (Vm.Alike.refl U.vm) (fun _ _ _ => rfl) h4, h5⟩
/-- method y, of depth d, over the world L r h, with the arguments as: it returns, and post says what -/
def Ct (d mc ms : Nat) (y : MethodName) (cc : ByteArray) (ml : Nat) (ret : Option FieldType) (as : List Value) (L : aw_L) (r : aw_R) (h : aw_H) (post : Option Value → aw_L → aw_R → aw_H → Prop) : Prop :=
  ∀ (l : Launch) (g : aw_G), Met l y (Cond.code y cc ml ret :: BG) (aw_rm d mc ms) (aw_Pc g as L r h) (aw_Qc g post) mc ms (aw_A g)
def aw_E (X : aw_X) (ret : Option FieldType) (post : Option Value → aw_L → aw_R → aw_H → Prop) (mc ms : Nat) : Prop := xQ X = MQ (xb X) (aw_Qc (xg X) post) (xa X) (xs X) mc ms (aw_A (xg X)) ∧ (xt X).sig.returnType = ret
theorem aw_len : ∀ as : List Value, (lg_sl as).length = (aw_al as).length
  | [] => rfl
  | v :: t => by
    have ih := aw_len t
    have e : lg_sl (v :: t) = (if v.category = 2 then [.val v, .second] else [.val v]) ++ lg_sl t := rfl
    rw [e, aw_al]
    cases v <;> simp [aw_n2, Value.category, ih] <;> omega
theorem aw_lenM (ad : Nat → Nat) : ∀ as : List Value, (lg_sl (as.map (aw_tv ad))).length = (lg_sl as).length
  | [] => rfl
  | v :: t => by
    have ih := aw_lenM ad t
    have e : ∀ (v : Value) (t : List Value), lg_sl (v :: t) = (if v.category = 2 then [.val v, .second] else [.val v]) ++ lg_sl t := fun _ _ => rfl
    rw [List.map_cons, e, e, aw_tv_cat, List.length_append, List.length_append, ih]
    split <;> rfl
theorem Ct.of {d mc ms : Nat} {y : MethodName} {cc : ByteArray} {ml : Nat} {ret : Option FieldType} {as ls0 : List Value} {L : aw_L} {r : aw_R} {h : aw_H} {post : Option Value → aw_L → aw_R → aw_H → Prop} (hy : plainName y.cls = true) (hls : ls0 = aw_al as ++ List.replicate (ml - (aw_al as).length) (.retAddr 0)) (hlen : Nat.ble (aw_al as).length ml = true)
    (body : ∀ X, aw_C X y.cls cc ml d mc ms → aw_E X ret post mc ms → (xt X).name = y.name → AW X ml 0 ls0 [] L r h 0 0) : Ct d mc ms y cc ml ret as L r h post := by
  intro l g
  refine Met.ofW hy rfl ?_
  intro p e s m args below meth c s₁ B hml hv
  obtain ⟨rfl, hW, hK, hO, hB, hn⟩ := hv
  have hts := atoms_spec (ws := Cond.code y cc ml ret :: BG) B.pre
  have hown : s.vm.findClass y.cls = some m.cls := findClass_of_methodNamed B.named
  have key := body (p, l, e, (headSpec (Cond.code y cc ml ret :: BG) (aw_rm d mc ms)).room, s, m, (as.map (aw_tv g.2.2.1)).toArray, below, meth, c, MQ below (aw_Qc g post) (as.map (aw_tv g.2.2.1)).toArray s mc ms (aw_A g), g) ⟨B.exec, B.bytes, hml, hown, fun w hw => hts w (List.mem_cons_of_mem _ hw), B.notSynchronized, ⟨by rw [hW.1]; exact Nat.le_add_right _ _, hK, hO, hB⟩, ⟨Nat.le_refl d, Nat.le_refl _, rfl, rfl⟩⟩ ⟨rfl, B.returns⟩ (name_of_methodNamed B.named B.method).1
  have hle := Nat.le_of_ble_eq_true hlen
  have hl := lv_entry (as.map (aw_tv g.2.2.1)) (n := ml) (by rw [aw_lenM, aw_len]; exact hle)
  rw [lg_entry_eq]
  refine key s.heap [] _ hW hn va_S.rf (lv_mono hl fun q hq => ?_)
  rw [hls] at hq
  exact aw_al_mem hq
section AWE
variable {post : Option Value → aw_L → aw_R → aw_H → Prop}
theorem aw_end {H : Heap} {locs : List Loc} (v : Option Value) (hS : va_S (aw_A (xg X)) (xs X).heap H locs) (hW : aw_W (xg X) L r h H) (hn : L.length ≤ 1000) (hp : post v L r h) (t : State) (ht : t.heap = H) : aw_Qc (xg X) post (xa X) (xs X) (.returned (v.map (aw_tv (xg X).2.2.1))) t :=
  ⟨v, L, r, h, hp, rfl, by rw [ht]; exact hW, hn, by rw [ht]; exact hS.1, fun q h1 h2 => by rw [ht]; exact hS.2.1 q h1 h2⟩
theorem aw_iret {v : Int32} (C : aw_C X own cc nL D mc ms) (E : aw_E X (some .int) post mc ms) (hd : decode cc pc = .ok (.ireturn, 1)) (hca : Nat.ble ca mc = true) (hsa : Nat.ble sa ms = true) (hp : post (some (.int v)) L r h) : AW X nL pc ls [.int v] L r h ca sa := by
  intro H locs la hW hn hS hL
  rw [E.1]
  exact W.widen (Nat.le_of_ble_eq_true hca) (Nat.le_of_ble_eq_true hsa) (W.iret (v := v) C.x C.b E.2 (fun t ht _ => aw_end (some (.int v)) hS hW hn hp t ht) hS.2.2 hd C.2.2.2.2.2.1)
theorem aw_lret {v : Int64} (C : aw_C X own cc nL D mc ms) (E : aw_E X (some .long) post mc ms) (hd : decode cc pc = .ok (.lreturn, 1)) (hca : Nat.ble ca mc = true) (hsa : Nat.ble sa ms = true) (hp : post (some (.long v)) L r h) : AW X nL pc ls [.long v] L r h ca sa := by
  intro H locs la hW hn hS hL
  rw [E.1]
  exact W.widen (Nat.le_of_ble_eq_true hca) (Nat.le_of_ble_eq_true hsa) (W.lret (v := v) C.x C.b E.2 (fun t ht _ => aw_end (some (.long v)) hS hW hn hp t ht) hS.2.2 hd C.2.2.2.2.2.1)
theorem aw_vret (C : aw_C X own cc nL D mc ms) (E : aw_E X none post mc ms) (hd : decode cc pc = .ok (.return_, 1)) (hca : Nat.ble ca mc = true) (hsa : Nat.ble sa ms = true) (hp : post none L r h) : AW X nL pc ls [] L r h ca sa := by
  intro H locs la hW hn hS hL
  rw [E.1]
  exact W.widen (Nat.le_of_ble_eq_true hca) (Nat.le_of_ble_eq_true hsa) (W.vret C.x C.b E.2 (fun t ht _ => aw_end none hS hW hn hp t ht) hS.2.2 hd C.2.2.2.2.2.1)
theorem aw_zret {v : Int32} {ty : FieldType} (C : aw_C X own cc nL D mc ms) (E : aw_E X (some ty) post mc ms) (hv : narrow ty (.int v) = .int v) (hd : decode cc pc = .ok (.ireturn, 1)) (hca : Nat.ble ca mc = true) (hsa : Nat.ble sa ms = true) (hp : post (some (.int v)) L r h) : AW X nL pc ls [.int v] L r h ca sa := by
  intro H locs la hW hn hS hL
  rw [E.1]
  exact W.widen (Nat.le_of_ble_eq_true hca) (Nat.le_of_ble_eq_true hsa) (W.zret (v := v) C.x C.b E.2 hv (fun t ht _ => aw_end (some (.int v)) hS hW hn hp t ht) hS.2.2 hd C.2.2.2.2.2.1)
theorem aw_aretR {q : Nat} {cn : String} (C : aw_C X own cc nL D mc ms) (E : aw_E X (some (.object cn)) post mc ms) (hd : decode cc pc = .ok (.areturn, 1)) (hca : Nat.ble ca mc = true) (hsa : Nat.ble sa ms = true) (hp : post (some (.ref q)) L r h) : AW X nL pc ls [.ref q] L r h ca sa := by
  intro H locs la hW hn hS hL
  rw [E.1]
  exact W.widen (Nat.le_of_ble_eq_true hca) (Nat.le_of_ble_eq_true hsa) (W.aret C.x C.b E.2 (Or.inl ⟨cn, rfl⟩) (Or.inr ⟨_, rfl⟩) (fun t ht _ => aw_end (some (.ref q)) hS hW hn hp t ht) hS.2.2 hd C.2.2.2.2.2.1)
theorem aw_aretN {cn : String} (C : aw_C X own cc nL D mc ms) (E : aw_E X (some (.object cn)) post mc ms) (hd : decode cc pc = .ok (.areturn, 1)) (hca : Nat.ble ca mc = true) (hsa : Nat.ble sa ms = true) (hp : post (some .null) L r h) : AW X nL pc ls [.null] L r h ca sa := by
  intro H locs la hW hn hS hL
  rw [E.1]
  exact W.widen (Nat.le_of_ble_eq_true hca) (Nat.le_of_ble_eq_true hsa) (W.aret C.x C.b E.2 (Or.inl ⟨cn, rfl⟩) (Or.inl rfl) (fun t ht _ => aw_end (some .null) hS hW hn hp t ht) hS.2.2 hd C.2.2.2.2.2.1)
end AWE
end AWN

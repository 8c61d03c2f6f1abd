/-! CALLS: by the callee's contract -/
/-- what a call needs of method y: its code, its class, n parameters -/
def aw_Y (y : MethodName) (bytes : ByteArray) (ml : Nat) (ret : Option FieldType) (n : Nat) : Prop := Cond.code y bytes ml ret ∈ BG ∧ Cond.initialized y.cls ∈ BG ∧ (y.cls ≠ "java/lang/invoke/MethodHandle" ∧ y.cls ≠ "java/lang/invoke/VarHandle") ∧ (parseMethodDescriptor y.desc).map (fun d => d.parameters.length) = some n ∧ ml ≤ 20
theorem bg_good {w : Cond} (h : w ∈ BG) : (w.onTables && w.keeps) = true ∨ ∃ ty, w = .arrayClass ty := good_of_word (List.mem_filter.mp h).2
theorem bg_ws {w0 : Cond} (h : w0 ∈ BG) : ∀ w ∈ (w0 :: BG), w ∈ BG ∧ ((w.onTables && w.keeps) = true ∨ ∃ ty, w = .arrayClass ty) := fun w hw => by
  rcases List.mem_cons.mp hw with rfl | hw
  · exact ⟨h, bg_good h⟩
  · exact ⟨hw, bg_good hw⟩
section AWK
variable {X : aw_X} {own : String} {cc : ByteArray} {nL D mc ms pc : Nat} {ls st : List Value} {L : aw_L} {r : aw_R} {h : aw_H} {ca sa : Nat} {ix o ci d mc' ms' ml n : Nat} {y : MethodName} {bytes : ByteArray} {ret : Option FieldType} {post : Option Value → aw_L → aw_R → aw_H → Prop}
theorem aw_pre {H : Heap} {locs : List Loc} {as : List Value} (C : aw_C X own cc nL D mc ms) (hW : aw_W (xg X) L r h H) (hn : L.length ≤ 1000) (hS : va_S (aw_A (xg X)) (xs X).heap H locs) (U : State) (hU : U.heap = H) (hw : (xs X).WarmedH U.vm) : aw_Pc (xg X) as L r h (as.map (aw_tv (xg X).2.2.1)).toArray U :=
  ⟨rfl, by rw [hU]; exact hW, C.k.warm hw, by rw [hU]; exact aw_O.to hw.alike hS.2.1 C.c, C.d, hn⟩
theorem aw_cont {H : Heap} {locs : List Loc} {la : Array Slot} {st0 : List Value} {a : Array Value} (hr : va_Run (xp X) (xl X) (xe X) (xR X) (xs X) (xm X) (xa X) (xb X) (xt X) (xc X) H locs ca sa mc' ms' (F0 (xm X) pc la st0) (st.map (aw_tv (xd X))) (aw_Qc (xg X) post a) (aw_A (xg X)))
    (hS : va_S (aw_A (xg X)) (xs X).heap H locs) (hL : lv_has la nL (aw_lv (xd X) 0 ls)) (kk : ∀ (v : Option Value) (L' : aw_L) (r' : aw_R) (h' : aw_H), post v L' r' h' → AW X nL (pc + 3) ls (v.toList ++ st) L' r' h' (ca + mc') (sa + ms')) :
    W (xp X) (xl X) (xe X) (xR X) (xs X) (xm X) (xa X) (xb X) (xt X) (xc X) H locs ca sa (xQ X) (F0 (xm X) pc la st0) := by
  intro T hT XX
  obtain ⟨v, st₀, t, T', L0, h0, X', hL0, e1, e2, ⟨v1, L', r', h', hp, hv, hW', hn', hsz, hf⟩, go⟩ := hr T hT XX
  cases hv
  rw [h0] at hsz hf
  obtain ⟨t2, a1, b1⟩ := kk v1 L' r' h' hp T'.heap (locs ++ L0) la (by rw [e1]; exact hW') hn' ⟨Nat.le_trans hS.1 (by rw [e1]; exact hsz), fun q h1 h2 => by rw [e1, hf q (Nat.lt_of_lt_of_le h1 hS.1) h2]; exact hS.2.1 q h1 h2, fun q hq => by
      rcases List.mem_append.mp hq with hq | hq
      · exact hS.2.2 q hq
      · exact hL0 q hq⟩ hL T' rfl X'
  refine ⟨t2, go t2 ?_, b1⟩
  cases v1 <;> exact a1
theorem aw_cb {rest : List Value} (C : aw_C X own cc nL D mc ms) (hy : aw_Y y bytes ml ret n) (hl : Cond.methodLink own ix y ∈ BG) (hD : Nat.blt d D = true) : CallB (xR X) (xs X) (xa X) own ix y bytes ml ret (Cond.code y bytes ml ret :: BG) (aw_rm d mc' ms') mc' ms' n := by
  obtain ⟨hc, hi, hne, hp, hml⟩ := hy
  obtain ⟨hRf, hRl, -, -⟩ := C.2.2.2.2.2.2.2
  have hD : d + 1 ≤ D := Nat.le_of_ble_eq_true hD
  refine ⟨rfl, rfl, ?_, ?_, pay_in C.w (bg_ws hc), List.mem_cons_self, C.w _ hc, C.w _ hi, hne, fun sig hs => ?_, C.w _ hl⟩
  · show d + 1 ≤ _
    omega
  · show 8 + (ml + 11) + 39 * d ≤ _
    have h1 : 39 * (d + 1) ≤ 39 * D := Nat.mul_le_mul_left 39 hD
    omega
  · rw [hs] at hp
    exact (Option.some.inj hp).symm
theorem aw_cn {rest : List Value} (C : aw_C X own cc nL D mc ms) (hy : aw_Y y bytes ml ret n) (hl : Cond.methodLinkNest own ix y RX5 ∈ NW) (hD : Nat.blt d D = true) : va_CN (xR X) (xs X) (xa X) own ix y RX5 bytes ml ret (Cond.code y bytes ml ret :: BG) (aw_rm d mc' ms') mc' ms' n := by
  obtain ⟨hc, hi, hne, hp, hml⟩ := hy
  obtain ⟨hRf, hRl, -, -⟩ := C.2.2.2.2.2.2.2
  have hD : d + 1 ≤ D := Nat.le_of_ble_eq_true hD
  refine ⟨⟨rfl, rfl, ?_, ?_, pay_in C.w (bg_ws hc), List.mem_cons_self⟩, C.w _ hc, C.w _ hi, hne, fun sig hs => ?_, va_Nw.use rfl (C.k.2.2.1 _ hl)⟩
  · show d + 1 ≤ _
    omega
  · show 8 + (ml + 11) + 39 * d ≤ _
    have h1 : 39 * (d + 1) ≤ 39 * D := Nat.mul_le_mul_left 39 hD
    omega
  · rw [hs] at hp
    exact (Option.some.inj hp).symm
theorem aw_fit (C : aw_C X own cc nL D mc ms) (h1 : Nat.ble (ca + mc') mc = true) (h2 : Nat.ble (sa + ms') ms = true) : ca + mc' ≤ (xR X).cells ∧ sa + ms' ≤ (xR X).slots := by
  obtain ⟨-, -, hRc, hRs⟩ := C.2.2.2.2.2.2.2
  rw [hRc, hRs]
  exact ⟨Nat.le_of_ble_eq_true h1, Nat.le_of_ble_eq_true h2⟩
theorem aw_mapR (f : Value → Value) (as : List Value) (st : List Value) : (as.reverse ++ st).map f = (as.map f).reverse ++ st.map f := by rw [List.map_append, List.map_reverse]
theorem aw_rst {pc' : Nat} {la : Array Slot} {st0 : List Value} (ad : Nat → Nat) (hw : Nat.ble (st.map fun v => v.category).sum 8 = true) : 2 * (F0 (xm X) pc' la st0).monitorRoom + ((st.map (aw_tv ad)).map fun v => v.category).sum ≤ 8 := lv_room (by rw [aw_cats]; exact Nat.le_of_ble_eq_true hw)
theorem aw_callS {as : List Value} (C : aw_C X own cc nL D mc ms) (hd : decode cc pc = .ok (.invokestatic ix, 3)) (hy : aw_Y y bytes ml ret n) (hl : Cond.methodLink own ix y ∈ BG) (hs : Cond.static y ∈ BG) (hD : Nat.blt d D = true) (hw : Nat.ble (st.map fun v => v.category).sum 8 = true) (hn : as.length = n) (h1 : Nat.ble (ca + mc') mc = true) (h2 : Nat.ble (sa + ms') ms = true) (hM : Ct d mc' ms' y bytes ml ret as L r h post)
    (kk : ∀ (v : Option Value) (L' : aw_L) (r' : aw_R) (h' : aw_H), post v L' r' h' → AW X nL (pc + 3) ls (v.toList ++ st) L' r' h' (ca + mc') (sa + ms')) : AW X nL pc ls (as.reverse ++ st) L r h ca sa := by
  intro H locs la hW hln hS hL
  rw [aw_mapR]
  exact aw_cont (va_runS (As := as.map (aw_tv (xd X))) ⟨C.x, C.b, C.l, C.o, C.w⟩ (hM (xl X) (xg X)) ⟨aw_cb (rest := st) C hy hl hD, C.w _ hs⟩ ⟨aw_blind _ _ _ _ _, aw_pre C hW hln hS⟩ rfl (by rw [List.length_map]; exact hn) hL.1 rfl (aw_rst _ hw) hd (aw_fit C h1 h2)) hS hL kk
theorem aw_callSN {as : List Value} (C : aw_C X own cc nL D mc ms) (hd : decode cc pc = .ok (.invokestatic ix, 3)) (hy : aw_Y y bytes ml ret n) (hl : Cond.methodLinkNest own ix y RX5 ∈ NW) (hs : Cond.static y ∈ BG) (hD : Nat.blt d D = true) (hw : Nat.ble (st.map fun v => v.category).sum 8 = true) (hn : as.length = n) (h1 : Nat.ble (ca + mc') mc = true) (h2 : Nat.ble (sa + ms') ms = true) (hM : Ct d mc' ms' y bytes ml ret as L r h post)
    (kk : ∀ (v : Option Value) (L' : aw_L) (r' : aw_R) (h' : aw_H), post v L' r' h' → AW X nL (pc + 3) ls (v.toList ++ st) L' r' h' (ca + mc') (sa + ms')) : AW X nL pc ls (as.reverse ++ st) L r h ca sa := by
  intro H locs la hW hln hS hL
  rw [aw_mapR]
  exact aw_cont (va_runSN (As := as.map (aw_tv (xd X))) ⟨C.x, C.b, C.l, C.o, C.w⟩ (hM (xl X) (xg X)) ⟨aw_cn (rest := st) C hy hl hD, C.w _ hs, trivial⟩ ⟨aw_blind _ _ _ _ _, aw_pre C hW hln hS⟩ rfl (by rw [List.length_map]; exact hn) hL.1 rfl (aw_rst _ hw) hd (aw_fit C h1 h2)) hS hL kk
/-- an object that is of the method's class -/
def aw_Rv (X : aw_X) (y : MethodName) (L : aw_L) (r : aw_R) (h : aw_H) (o : Nat) : Prop := ∀ (H : Heap) (locs : List Loc), aw_W (xg X) L r h H → va_S (aw_A (xg X)) (xs X).heap H locs → ∃ cellB : Cell, H[xd X o]? = some cellB ∧ cellB.vm.isStatics = false ∧ (xs X).vm.findClass y.cls = some cellB.cls
theorem aw_rv {T : u_T} {N : Nat} (C : aw_C X own cc nL D mc ms) (ho : L[o]? = some (0, ci)) (hc : vwCl[ci]? = some (y.cls, T, N)) : aw_Rv X y L r h o := by
  intro H locs hW hS
  obtain ⟨q, hq, cell, q1, q2, q3, -⟩ := (show ∃ q : vw_C, vwCl[ci]? = some q ∧ t_OB _ _ _ _ _ _ from hW.2 o (0, ci) ho)
  cases hc.symm.trans hq
  obtain ⟨-, hfc, -⟩ := C.k.1 ci _ hc
  exact ⟨cell, q1, by rw [q3]; rfl, by rw [q2]; exact hfc⟩
theorem aw_rvS {i : Nat} (C : aw_C X own cc nL D mc ms) (hi : i < 7) (hy : y.cls = RJ0) : aw_Rv X y L r h (1000 + i) := by
  intro H locs hW hS
  obtain ⟨cell, h1, h2, h3⟩ := vk_recv C.c.1 hi hS
  exact ⟨cell, h1, h2, by rw [hy]; exact h3⟩
theorem aw_callV {as : List Value} (C : aw_C X own cc nL D mc ms) (hd : decode cc pc = .ok (.invokevirtual ix, 3)) (hy : aw_Y y bytes ml ret n) (hl : Cond.methodLink own ix y ∈ BG) (hi : Cond.instanceMethod y ∈ BG) (hv : Cond.selects y.cls y y ∈ BG) (hrv : aw_Rv X y L r h o) (hD : Nat.blt d D = true) (hw : Nat.ble (st.map fun v => v.category).sum 8 = true) (hn : as.length = n) (h1 : Nat.ble (ca + mc') mc = true) (h2 : Nat.ble (sa + ms') ms = true) (hM : Ct d mc' ms' y bytes ml ret (.ref o :: as) L r h post)
    (kk : ∀ (v : Option Value) (L' : aw_L) (r' : aw_R) (h' : aw_H), post v L' r' h' → AW X nL (pc + 3) ls (v.toList ++ st) L' r' h' (ca + mc') (sa + ms')) : AW X nL pc ls (as.reverse ++ .ref o :: st) L r h ca sa := by
  intro H locs la hW hln hS hL
  rw [aw_mapR]
  exact aw_cont (va_runV (As := as.map (aw_tv (xd X))) (C := y.cls) ⟨C.x, C.b, C.l, C.o, C.w⟩ (hM (xl X) (xg X)) ⟨aw_cb (rest := st) C hy hl hD, C.w _ hi, C.w _ hv⟩ ⟨aw_blind _ _ _ _ _, hrv H locs hW hS, aw_pre (as := .ref o :: as) C hW hln hS⟩ rfl (by rw [List.length_map]; exact hn) hL.1 rfl (aw_rst _ hw) hd (aw_fit C h1 h2)) hS hL kk
theorem aw_callI {as : List Value} (C : aw_C X own cc nL D mc ms) (hd : decode cc pc = .ok (.invokespecial ix, 3)) (hy : aw_Y y bytes ml none n) (hl : Cond.methodLink own ix y ∈ BG) (hi : Cond.instanceMethod y ∈ BG) (hnm : y.name = "<init>") (hD : Nat.blt d D = true) (hw : Nat.ble (st.map fun v => v.category).sum 8 = true) (hn : as.length = n) (h1 : Nat.ble (ca + mc') mc = true) (h2 : Nat.ble (sa + ms') ms = true) (hM : Ct d mc' ms' y bytes ml none (.ref o :: as) L r h post)
    (kk : ∀ (v : Option Value) (L' : aw_L) (r' : aw_R) (h' : aw_H), post v L' r' h' → AW X nL (pc + 3) ls (v.toList ++ st) L' r' h' (ca + mc') (sa + ms')) : AW X nL pc ls (as.reverse ++ .ref o :: st) L r h ca sa := by
  intro H locs la hW hln hS hL
  rw [aw_mapR]
  exact aw_cont (va_runI (As := as.map (aw_tv (xd X))) ⟨C.x, C.b, C.l, C.o, C.w⟩ (hM (xl X) (xg X)) ⟨aw_cb (rest := st) C hy hl hD, hnm, C.w _ hi⟩ ⟨aw_blind _ _ _ _ _, aw_pre (as := .ref o :: as) C hW hln hS⟩ rfl (by rw [List.length_map]; exact hn) hL.1 rfl (aw_rst _ hw) hd (aw_fit C h1 h2)) hS hL kk
theorem aw_callIN {as : List Value} (C : aw_C X own cc nL D mc ms) (hd : decode cc pc = .ok (.invokespecial ix, 3)) (hy : aw_Y y bytes ml none n) (hl : Cond.methodLinkNest own ix y RX5 ∈ NW) (hi : Cond.instanceMethod y ∈ BG) (hnm : y.name = "<init>") (hD : Nat.blt d D = true) (hw : Nat.ble (st.map fun v => v.category).sum 8 = true) (hn : as.length = n) (h1 : Nat.ble (ca + mc') mc = true) (h2 : Nat.ble (sa + ms') ms = true) (hM : Ct d mc' ms' y bytes ml none (.ref o :: as) L r h post)
    (kk : ∀ (v : Option Value) (L' : aw_L) (r' : aw_R) (h' : aw_H), post v L' r' h' → AW X nL (pc + 3) ls (v.toList ++ st) L' r' h' (ca + mc') (sa + ms')) : AW X nL pc ls (as.reverse ++ .ref o :: st) L r h ca sa := by
  intro H locs la hW hln hS hL
  rw [aw_mapR]
  exact aw_cont (va_runIN (As := as.map (aw_tv (xd X))) ⟨C.x, C.b, C.l, C.o, C.w⟩ (hM (xl X) (xg X)) ⟨aw_cn (rest := st) C hy hl hD, hnm, C.w _ hi⟩ ⟨aw_blind _ _ _ _ _, aw_pre (as := .ref o :: as) C hW hln hS⟩ rfl (by rw [List.length_map]; exact hn) hL.1 rfl (aw_rst _ hw) hd (aw_fit C h1 h2)) hS hL kk
/-- System.arraycopy of one part of the ints (or longs) of a cell into another (or the same) -/
def aw_cI (h : aw_H) (a b sp dp n : Nat) : aw_H := (fun c => if c = b then va_cpy (h.1 a) (h.1 b) sp dp n else h.1 c, h.2)
def aw_cL (h : aw_H) (a b sp dp n : Nat) : aw_H := (h.1, fun c => if c = b then va_cpy (h.2 a) (h.2 b) sp dp n else h.2 c)
theorem aw_copy_int {a b n0 n1 : Nat} {sp dp n : Int32} (C : aw_C X own cc nL D mc ms) (hd : decode cc pc = .ok (.invokestatic ix, 3)) (hl : Cond.methodLink own ix arraycopyName ∈ BG) (hnat : Cond.native arraycopyName ∈ BG) (hstat : Cond.static arraycopyName ∈ BG) (hini : Cond.initialized "java/lang/System" ∈ BG) (hD : Nat.ble 1 D = true) (hw : Nat.ble (st.map fun v => v.category).sum 8 = true)
    (ha : L[a]? = some (1, n0)) (hb : L[b]? = some (1, n1)) (h1 : ¬ sp < 0) (h2 : ¬ dp < 0) (h3 : ¬ n < 0) (h4 : sp.toNatClampNeg + n.toNatClampNeg ≤ n0) (h5 : dp.toNatClampNeg + n.toNatClampNeg ≤ n1)
    (kk : AW X nL (pc + 3) ls st L r (aw_cI h a b sp.toNatClampNeg dp.toNatClampNeg n.toNatClampNeg) ca sa) : AW X nL pc ls (.int n :: .int dp :: .ref b :: .int sp :: .ref a :: st) L r h ca sa := by
  have nn : ∀ z : Int32, ¬ z < 0 → z.toInt = (z.toNatClampNeg : Int) := by
    intro z hz
    have hz0 : (0 : Int) ≤ z.toInt := by
      have := Int32.not_lt.mp hz
      simpa using Int32.le_iff_toInt_le.mp this
    show z.toInt = ((z.toInt.toNat : Nat) : Int)
    omega
  intro H locs la hW hln hS hL
  intro T hT XX
  obtain ⟨hRf, hRl, -, -⟩ := C.2.2.2.2.2.2.2
  have hD := Nat.le_of_ble_eq_true hD
  have hw := Nat.le_of_ble_eq_true hw
  have hc0 : H[(xg X).2.2.1 a]? = some (arrV ((xg X).2.1 1) n0 (fun j => .int (h.1 a j))) := hW.2 a (1, n0) ha
  have hc1 : H[(xg X).2.2.1 b]? = some (arrV ((xg X).2.1 1) n1 (fun j => .int (h.1 b j))) := hW.2 b (1, n1) hb
  obtain ⟨-, k0, hk0, cm0, hkk0⟩ := (C.k.2.1 1 (by decide) (by decide)).1 n0 (fun j => .int (h.1 a j))
  obtain ⟨vm', X', step⟩ := XX.arraycopy C.x C.o (C.w _ hl) (C.w _ hnat) (C.w _ hstat) (C.w _ hini) (src := (xg X).2.2.1 a) (dst := (xg X).2.2.1 b) (cs := arrV ((xg X).2.1 1) n0 (fun j => .int (h.1 a j))) (cd := arrV ((xg X).2.1 1) n1 (fun j => .int (h.1 b j))) (srcPos := sp) (destPos := dp) (n := n) (by rw [hT]; exact hc0) (by rw [hT]; exact hc1)
    (fun _ h => by cases h) (fun _ h => by cases h) (fun h => by cases h) (fun h => by cases h) hk0 hk0 hkk0 hkk0 (by simp [refKind, aw_ty]) h1 h2 h3
    (by rw [nn sp h1, nn n h3, arrV_size]; omega)
    (by rw [nn dp h2, nn n h3, arrV_size]; omega)
    (fun vm₁ _ i hi => by
      have e : (arrV ((xg X).2.1 1) n0 (fun j => .int (h.1 a j))).slots.getD (sp.toNatClampNeg + i) .null = .int (h.1 a (sp.toNatClampNeg + i)) := by
        rw [Array.getD_eq_getD_getElem?, arrV_read _ _ (by omega)]
        rfl
      refine ⟨?_, ?_⟩
      · rw [e]
        rfl
      · rw [e]
        exact trivial)
    (g := F0 (xm X) pc la (.int n :: .int dp :: .ref ((xg X).2.2.1 b) :: .int sp :: .ref ((xg X).2.2.1 a) :: st.map (aw_tv (xd X)))) rfl (by rw [C.l]; exact hL.1) (rest := st.map (aw_tv (xd X))) rfl (by rw [C.b]; exact hd) (by omega) (by
      rw [aw_cats]
      have e9 : nativeFrameWords "java/lang/System" "arraycopy" 5 + 11 ≤ 31 := by decide +kernel
      show 2 * 0 + _ + _ ≤ _
      omega)
  have e1 : copied (arrV ((xg X).2.1 1) n0 (fun j => .int (h.1 a j))) (arrV ((xg X).2.1 1) n1 (fun j => .int (h.1 b j))) sp dp n = arrV ((xg X).2.1 1) n1 (fun j => .int (va_cpy (h.1 a) (h.1 b) sp.toNatClampNeg dp.toNatClampNeg n.toNatClampNeg j)) := va_copied (fun z => .int z) _ _ (h.1 a) (h.1 b) h4
  rw [e1] at X' step
  have hlt : (xg X).2.2.1 b < H.size := (Array.getElem?_eq_some_iff.mp hc1).1
  generalize hcell : arrV ((xg X).2.1 1) n1 (fun j => .int (va_cpy (h.1 a) (h.1 b) sp.toNatClampNeg dp.toNatClampNeg n.toNatClampNeg j)) = cell at X' step
  have hheap : ((T.setVm vm').setCell ((xg X).2.2.1 b) cell).heap = H.setIfInBounds ((xg X).2.2.1 b) cell := by rw [← hT]; rfl
  have oq : ∀ q : Nat, q ≠ (xg X).2.2.1 b → (H.setIfInBounds ((xg X).2.2.1 b) cell)[q]? = H[q]? := fun q hq => by simp [Array.getElem?_setIfInBounds, Ne.symm hq]
  obtain ⟨t, a1, b1⟩ := kk (H.setIfInBounds ((xg X).2.2.1 b) cell) _ la (hW.one hln C.d hb (by simp) oq (show (H.setIfInBounds ((xg X).2.2.1 b) cell)[(xg X).2.2.1 b]? = some _ by
      rw [Array.getElem?_setIfInBounds_self_of_lt hlt, ← hcell]
      simp [aw_cI]) (fun c hc => by simp [aw_cI, hc]) (fun c hc => by simp [aw_cI, hc]) (fun _ _ => rfl)) hln ⟨by simp; exact hS.1, fun q g1 g2 => by
      rw [oq q (fun e => g2 (by rw [e]; exact aw_Aof hln C.d hb))]
      exact hS.2.1 q g1 g2, fun q hq => by
      rcases List.mem_append.mp hq with hq | hq
      · exact hS.2.2 q hq
      · obtain ⟨z, -, hz⟩ := List.mem_map.mp hq
        rw [← hz]
        exact aw_Aof hln C.d hb⟩ hL _ hheap X'
  exact ⟨t, step t a1, b1⟩
theorem aw_copy_long {a b n0 n1 : Nat} {sp dp n : Int32} (C : aw_C X own cc nL D mc ms) (hd : decode cc pc = .ok (.invokestatic ix, 3)) (hl : Cond.methodLink own ix arraycopyName ∈ BG) (hnat : Cond.native arraycopyName ∈ BG) (hstat : Cond.static arraycopyName ∈ BG) (hini : Cond.initialized "java/lang/System" ∈ BG) (hD : Nat.ble 1 D = true) (hw : Nat.ble (st.map fun v => v.category).sum 8 = true)
    (ha : L[a]? = some (2, n0)) (hb : L[b]? = some (2, n1)) (h1 : ¬ sp < 0) (h2 : ¬ dp < 0) (h3 : ¬ n < 0) (h4 : sp.toNatClampNeg + n.toNatClampNeg ≤ n0) (h5 : dp.toNatClampNeg + n.toNatClampNeg ≤ n1)
    (kk : AW X nL (pc + 3) ls st L r (aw_cL h a b sp.toNatClampNeg dp.toNatClampNeg n.toNatClampNeg) ca sa) : AW X nL pc ls (.int n :: .int dp :: .ref b :: .int sp :: .ref a :: st) L r h ca sa := by
  have nn : ∀ z : Int32, ¬ z < 0 → z.toInt = (z.toNatClampNeg : Int) := by
    intro z hz
    have hz0 : (0 : Int) ≤ z.toInt := by
      have := Int32.not_lt.mp hz
      simpa using Int32.le_iff_toInt_le.mp this
    show z.toInt = ((z.toInt.toNat : Nat) : Int)
    omega
  intro H locs la hW hln hS hL
  intro T hT XX
  obtain ⟨hRf, hRl, -, -⟩ := C.2.2.2.2.2.2.2
  have hD := Nat.le_of_ble_eq_true hD
  have hw := Nat.le_of_ble_eq_true hw
  have hc0 : H[(xg X).2.2.1 a]? = some (arrV ((xg X).2.1 2) n0 (fun j => .long (h.2 a j))) := hW.2 a (2, n0) ha
  have hc1 : H[(xg X).2.2.1 b]? = some (arrV ((xg X).2.1 2) n1 (fun j => .long (h.2 b j))) := hW.2 b (2, n1) hb
  obtain ⟨-, k0, hk0, cm0, hkk0⟩ := (C.k.2.1 2 (by decide) (by decide)).1 n0 (fun j => .long (h.2 a j))
  obtain ⟨vm', X', step⟩ := XX.arraycopy C.x C.o (C.w _ hl) (C.w _ hnat) (C.w _ hstat) (C.w _ hini) (src := (xg X).2.2.1 a) (dst := (xg X).2.2.1 b) (cs := arrV ((xg X).2.1 2) n0 (fun j => .long (h.2 a j))) (cd := arrV ((xg X).2.1 2) n1 (fun j => .long (h.2 b j))) (srcPos := sp) (destPos := dp) (n := n) (by rw [hT]; exact hc0) (by rw [hT]; exact hc1)
    (fun _ h => by cases h) (fun _ h => by cases h) (fun h => by cases h) (fun h => by cases h) hk0 hk0 hkk0 hkk0 (by simp [refKind, aw_ty]) h1 h2 h3
    (by rw [nn sp h1, nn n h3, arrV_size]; omega)
    (by rw [nn dp h2, nn n h3, arrV_size]; omega)
    (fun vm₁ _ i hi => by
      have e : (arrV ((xg X).2.1 2) n0 (fun j => .long (h.2 a j))).slots.getD (sp.toNatClampNeg + i) .null = .long (h.2 a (sp.toNatClampNeg + i)) := by
        rw [Array.getD_eq_getD_getElem?, arrV_read _ _ (by omega)]
        rfl
      refine ⟨?_, ?_⟩
      · rw [e]
        rfl
      · rw [e]
        exact trivial)
    (g := F0 (xm X) pc la (.int n :: .int dp :: .ref ((xg X).2.2.1 b) :: .int sp :: .ref ((xg X).2.2.1 a) :: st.map (aw_tv (xd X)))) rfl (by rw [C.l]; exact hL.1) (rest := st.map (aw_tv (xd X))) rfl (by rw [C.b]; exact hd) (by omega) (by
      rw [aw_cats]
      have e9 : nativeFrameWords "java/lang/System" "arraycopy" 5 + 11 ≤ 31 := by decide +kernel
      show 2 * 0 + _ + _ ≤ _
      omega)
  have e1 : copied (arrV ((xg X).2.1 2) n0 (fun j => .long (h.2 a j))) (arrV ((xg X).2.1 2) n1 (fun j => .long (h.2 b j))) sp dp n = arrV ((xg X).2.1 2) n1 (fun j => .long (va_cpy (h.2 a) (h.2 b) sp.toNatClampNeg dp.toNatClampNeg n.toNatClampNeg j)) := va_copied (fun z => .long z) _ _ (h.2 a) (h.2 b) h4
  rw [e1] at X' step
  have hlt : (xg X).2.2.1 b < H.size := (Array.getElem?_eq_some_iff.mp hc1).1
  generalize hcell : arrV ((xg X).2.1 2) n1 (fun j => .long (va_cpy (h.2 a) (h.2 b) sp.toNatClampNeg dp.toNatClampNeg n.toNatClampNeg j)) = cell at X' step
  have hheap : ((T.setVm vm').setCell ((xg X).2.2.1 b) cell).heap = H.setIfInBounds ((xg X).2.2.1 b) cell := by rw [← hT]; rfl
  have oq : ∀ q : Nat, q ≠ (xg X).2.2.1 b → (H.setIfInBounds ((xg X).2.2.1 b) cell)[q]? = H[q]? := fun q hq => by simp [Array.getElem?_setIfInBounds, Ne.symm hq]
  obtain ⟨t, a1, b1⟩ := kk (H.setIfInBounds ((xg X).2.2.1 b) cell) _ la (hW.one hln C.d hb (by simp) oq (show (H.setIfInBounds ((xg X).2.2.1 b) cell)[(xg X).2.2.1 b]? = some _ by
      rw [Array.getElem?_setIfInBounds_self_of_lt hlt, ← hcell]
      simp [aw_cL]) (fun c hc => by simp [aw_cL, hc]) (fun c hc => by simp [aw_cL, hc]) (fun _ _ => rfl)) hln ⟨by simp; exact hS.1, fun q g1 g2 => by
      rw [oq q (fun e => g2 (by rw [e]; exact aw_Aof hln C.d hb))]
      exact hS.2.1 q g1 g2, fun q hq => by
      rcases List.mem_append.mp hq with hq | hq
      · exact hS.2.2 q hq
      · obtain ⟨z, -, hz⟩ := List.mem_map.mp hq
        rw [← hz]
        exact aw_Aof hln C.d hb⟩ hL _ hheap X'
  exact ⟨t, step t a1, b1⟩
/-! the same, by the number of arguments -/
theorem aw_S0 (C : aw_C X own cc nL D mc ms) (hd : decode cc pc = .ok (.invokestatic ix, 3)) (hy : aw_Y y bytes ml ret 0) (hl : Cond.methodLink own ix y ∈ BG) (hs : Cond.static y ∈ BG) (hD : Nat.blt d D = true) (hw : Nat.ble (st.map fun v => v.category).sum 8 = true) (h1 : Nat.ble (ca + mc') mc = true) (h2 : Nat.ble (sa + ms') ms = true) (hM : Ct d mc' ms' y bytes ml ret [] L r h post) (kk : ∀ (v : Option Value) (L' : aw_L) (r' : aw_R) (h' : aw_H), post v L' r' h' → AW X nL (pc + 3) ls (v.toList ++ st) L' r' h' (ca + mc') (sa + ms')) : AW X nL pc ls (st) L r h ca sa := aw_callS (as := []) C hd hy hl hs hD hw rfl h1 h2 hM kk
theorem aw_N0 (C : aw_C X own cc nL D mc ms) (hd : decode cc pc = .ok (.invokestatic ix, 3)) (hy : aw_Y y bytes ml ret 0) (hl : Cond.methodLinkNest own ix y RX5 ∈ NW) (hs : Cond.static y ∈ BG) (hD : Nat.blt d D = true) (hw : Nat.ble (st.map fun v => v.category).sum 8 = true) (h1 : Nat.ble (ca + mc') mc = true) (h2 : Nat.ble (sa + ms') ms = true) (hM : Ct d mc' ms' y bytes ml ret [] L r h post) (kk : ∀ (v : Option Value) (L' : aw_L) (r' : aw_R) (h' : aw_H), post v L' r' h' → AW X nL (pc + 3) ls (v.toList ++ st) L' r' h' (ca + mc') (sa + ms')) : AW X nL pc ls (st) L r h ca sa := aw_callSN (as := []) C hd hy hl hs hD hw rfl h1 h2 hM kk
theorem aw_V0 (C : aw_C X own cc nL D mc ms) (hd : decode cc pc = .ok (.invokevirtual ix, 3)) (hy : aw_Y y bytes ml ret 0) (hl : Cond.methodLink own ix y ∈ BG) (hi : Cond.instanceMethod y ∈ BG) (hv : Cond.selects y.cls y y ∈ BG) (hrv : aw_Rv X y L r h o) (hD : Nat.blt d D = true) (hw : Nat.ble (st.map fun v => v.category).sum 8 = true) (h1 : Nat.ble (ca + mc') mc = true) (h2 : Nat.ble (sa + ms') ms = true) (hM : Ct d mc' ms' y bytes ml ret (.ref o :: []) L r h post) (kk : ∀ (v : Option Value) (L' : aw_L) (r' : aw_R) (h' : aw_H), post v L' r' h' → AW X nL (pc + 3) ls (v.toList ++ st) L' r' h' (ca + mc') (sa + ms')) : AW X nL pc ls (.ref o :: st) L r h ca sa := aw_callV (as := []) C hd hy hl hi hv hrv hD hw rfl h1 h2 hM kk
theorem aw_I0 (C : aw_C X own cc nL D mc ms) (hd : decode cc pc = .ok (.invokespecial ix, 3)) (hy : aw_Y y bytes ml none 0) (hl : Cond.methodLink own ix y ∈ BG) (hi : Cond.instanceMethod y ∈ BG) (hnm : y.name = "<init>") (hD : Nat.blt d D = true) (hw : Nat.ble (st.map fun v => v.category).sum 8 = true) (h1 : Nat.ble (ca + mc') mc = true) (h2 : Nat.ble (sa + ms') ms = true) (hM : Ct d mc' ms' y bytes ml none [.ref o] L r h post) (kk : ∀ (v : Option Value) (L' : aw_L) (r' : aw_R) (h' : aw_H), post v L' r' h' → AW X nL (pc + 3) ls (v.toList ++ st) L' r' h' (ca + mc') (sa + ms')) : AW X nL pc ls (.ref o :: st) L r h ca sa := aw_callI (as := []) C hd hy hl hi hnm hD hw rfl h1 h2 hM kk
theorem aw_J0 (C : aw_C X own cc nL D mc ms) (hd : decode cc pc = .ok (.invokespecial ix, 3)) (hy : aw_Y y bytes ml none 0) (hl : Cond.methodLinkNest own ix y RX5 ∈ NW) (hi : Cond.instanceMethod y ∈ BG) (hnm : y.name = "<init>") (hD : Nat.blt d D = true) (hw : Nat.ble (st.map fun v => v.category).sum 8 = true) (h1 : Nat.ble (ca + mc') mc = true) (h2 : Nat.ble (sa + ms') ms = true) (hM : Ct d mc' ms' y bytes ml none [.ref o] L r h post) (kk : ∀ (v : Option Value) (L' : aw_L) (r' : aw_R) (h' : aw_H), post v L' r' h' → AW X nL (pc + 3) ls (v.toList ++ st) L' r' h' (ca + mc') (sa + ms')) : AW X nL pc ls (.ref o :: st) L r h ca sa := aw_callIN (as := []) C hd hy hl hi hnm hD hw rfl h1 h2 hM kk
theorem aw_S1 {a1 : Value} (C : aw_C X own cc nL D mc ms) (hd : decode cc pc = .ok (.invokestatic ix, 3)) (hy : aw_Y y bytes ml ret 1) (hl : Cond.methodLink own ix y ∈ BG) (hs : Cond.static y ∈ BG) (hD : Nat.blt d D = true) (hw : Nat.ble (st.map fun v => v.category).sum 8 = true) (h1 : Nat.ble (ca + mc') mc = true) (h2 : Nat.ble (sa + ms') ms = true) (hM : Ct d mc' ms' y bytes ml ret [a1] L r h post) (kk : ∀ (v : Option Value) (L' : aw_L) (r' : aw_R) (h' : aw_H), post v L' r' h' → AW X nL (pc + 3) ls (v.toList ++ st) L' r' h' (ca + mc') (sa + ms')) : AW X nL pc ls (a1 :: st) L r h ca sa := aw_callS (as := [a1]) C hd hy hl hs hD hw rfl h1 h2 hM kk
theorem aw_N1 {a1 : Value} (C : aw_C X own cc nL D mc ms) (hd : decode cc pc = .ok (.invokestatic ix, 3)) (hy : aw_Y y bytes ml ret 1) (hl : Cond.methodLinkNest own ix y RX5 ∈ NW) (hs : Cond.static y ∈ BG) (hD : Nat.blt d D = true) (hw : Nat.ble (st.map fun v => v.category).sum 8 = true) (h1 : Nat.ble (ca + mc') mc = true) (h2 : Nat.ble (sa + ms') ms = true) (hM : Ct d mc' ms' y bytes ml ret [a1] L r h post) (kk : ∀ (v : Option Value) (L' : aw_L) (r' : aw_R) (h' : aw_H), post v L' r' h' → AW X nL (pc + 3) ls (v.toList ++ st) L' r' h' (ca + mc') (sa + ms')) : AW X nL pc ls (a1 :: st) L r h ca sa := aw_callSN (as := [a1]) C hd hy hl hs hD hw rfl h1 h2 hM kk
theorem aw_V1 {a1 : Value} (C : aw_C X own cc nL D mc ms) (hd : decode cc pc = .ok (.invokevirtual ix, 3)) (hy : aw_Y y bytes ml ret 1) (hl : Cond.methodLink own ix y ∈ BG) (hi : Cond.instanceMethod y ∈ BG) (hv : Cond.selects y.cls y y ∈ BG) (hrv : aw_Rv X y L r h o) (hD : Nat.blt d D = true) (hw : Nat.ble (st.map fun v => v.category).sum 8 = true) (h1 : Nat.ble (ca + mc') mc = true) (h2 : Nat.ble (sa + ms') ms = true) (hM : Ct d mc' ms' y bytes ml ret (.ref o :: [a1]) L r h post) (kk : ∀ (v : Option Value) (L' : aw_L) (r' : aw_R) (h' : aw_H), post v L' r' h' → AW X nL (pc + 3) ls (v.toList ++ st) L' r' h' (ca + mc') (sa + ms')) : AW X nL pc ls (a1 :: .ref o :: st) L r h ca sa := aw_callV (as := [a1]) C hd hy hl hi hv hrv hD hw rfl h1 h2 hM kk
theorem aw_S2 {a1 a2 : Value} (C : aw_C X own cc nL D mc ms) (hd : decode cc pc = .ok (.invokestatic ix, 3)) (hy : aw_Y y bytes ml ret 2) (hl : Cond.methodLink own ix y ∈ BG) (hs : Cond.static y ∈ BG) (hD : Nat.blt d D = true) (hw : Nat.ble (st.map fun v => v.category).sum 8 = true) (h1 : Nat.ble (ca + mc') mc = true) (h2 : Nat.ble (sa + ms') ms = true) (hM : Ct d mc' ms' y bytes ml ret [a1, a2] L r h post) (kk : ∀ (v : Option Value) (L' : aw_L) (r' : aw_R) (h' : aw_H), post v L' r' h' → AW X nL (pc + 3) ls (v.toList ++ st) L' r' h' (ca + mc') (sa + ms')) : AW X nL pc ls (a2 :: a1 :: st) L r h ca sa := aw_callS (as := [a1, a2]) C hd hy hl hs hD hw rfl h1 h2 hM kk
theorem aw_N2 {a1 a2 : Value} (C : aw_C X own cc nL D mc ms) (hd : decode cc pc = .ok (.invokestatic ix, 3)) (hy : aw_Y y bytes ml ret 2) (hl : Cond.methodLinkNest own ix y RX5 ∈ NW) (hs : Cond.static y ∈ BG) (hD : Nat.blt d D = true) (hw : Nat.ble (st.map fun v => v.category).sum 8 = true) (h1 : Nat.ble (ca + mc') mc = true) (h2 : Nat.ble (sa + ms') ms = true) (hM : Ct d mc' ms' y bytes ml ret [a1, a2] L r h post) (kk : ∀ (v : Option Value) (L' : aw_L) (r' : aw_R) (h' : aw_H), post v L' r' h' → AW X nL (pc + 3) ls (v.toList ++ st) L' r' h' (ca + mc') (sa + ms')) : AW X nL pc ls (a2 :: a1 :: st) L r h ca sa := aw_callSN (as := [a1, a2]) C hd hy hl hs hD hw rfl h1 h2 hM kk
theorem aw_V2 {a1 a2 : Value} (C : aw_C X own cc nL D mc ms) (hd : decode cc pc = .ok (.invokevirtual ix, 3)) (hy : aw_Y y bytes ml ret 2) (hl : Cond.methodLink own ix y ∈ BG) (hi : Cond.instanceMethod y ∈ BG) (hv : Cond.selects y.cls y y ∈ BG) (hrv : aw_Rv X y L r h o) (hD : Nat.blt d D = true) (hw : Nat.ble (st.map fun v => v.category).sum 8 = true) (h1 : Nat.ble (ca + mc') mc = true) (h2 : Nat.ble (sa + ms') ms = true) (hM : Ct d mc' ms' y bytes ml ret (.ref o :: [a1, a2]) L r h post) (kk : ∀ (v : Option Value) (L' : aw_L) (r' : aw_R) (h' : aw_H), post v L' r' h' → AW X nL (pc + 3) ls (v.toList ++ st) L' r' h' (ca + mc') (sa + ms')) : AW X nL pc ls (a2 :: a1 :: .ref o :: st) L r h ca sa := aw_callV (as := [a1, a2]) C hd hy hl hi hv hrv hD hw rfl h1 h2 hM kk
theorem aw_S3 {a1 a2 a3 : Value} (C : aw_C X own cc nL D mc ms) (hd : decode cc pc = .ok (.invokestatic ix, 3)) (hy : aw_Y y bytes ml ret 3) (hl : Cond.methodLink own ix y ∈ BG) (hs : Cond.static y ∈ BG) (hD : Nat.blt d D = true) (hw : Nat.ble (st.map fun v => v.category).sum 8 = true) (h1 : Nat.ble (ca + mc') mc = true) (h2 : Nat.ble (sa + ms') ms = true) (hM : Ct d mc' ms' y bytes ml ret [a1, a2, a3] L r h post) (kk : ∀ (v : Option Value) (L' : aw_L) (r' : aw_R) (h' : aw_H), post v L' r' h' → AW X nL (pc + 3) ls (v.toList ++ st) L' r' h' (ca + mc') (sa + ms')) : AW X nL pc ls (a3 :: a2 :: a1 :: st) L r h ca sa := aw_callS (as := [a1, a2, a3]) C hd hy hl hs hD hw rfl h1 h2 hM kk
theorem aw_N3 {a1 a2 a3 : Value} (C : aw_C X own cc nL D mc ms) (hd : decode cc pc = .ok (.invokestatic ix, 3)) (hy : aw_Y y bytes ml ret 3) (hl : Cond.methodLinkNest own ix y RX5 ∈ NW) (hs : Cond.static y ∈ BG) (hD : Nat.blt d D = true) (hw : Nat.ble (st.map fun v => v.category).sum 8 = true) (h1 : Nat.ble (ca + mc') mc = true) (h2 : Nat.ble (sa + ms') ms = true) (hM : Ct d mc' ms' y bytes ml ret [a1, a2, a3] L r h post) (kk : ∀ (v : Option Value) (L' : aw_L) (r' : aw_R) (h' : aw_H), post v L' r' h' → AW X nL (pc + 3) ls (v.toList ++ st) L' r' h' (ca + mc') (sa + ms')) : AW X nL pc ls (a3 :: a2 :: a1 :: st) L r h ca sa := aw_callSN (as := [a1, a2, a3]) C hd hy hl hs hD hw rfl h1 h2 hM kk
theorem aw_V3 {a1 a2 a3 : Value} (C : aw_C X own cc nL D mc ms) (hd : decode cc pc = .ok (.invokevirtual ix, 3)) (hy : aw_Y y bytes ml ret 3) (hl : Cond.methodLink own ix y ∈ BG) (hi : Cond.instanceMethod y ∈ BG) (hv : Cond.selects y.cls y y ∈ BG) (hrv : aw_Rv X y L r h o) (hD : Nat.blt d D = true) (hw : Nat.ble (st.map fun v => v.category).sum 8 = true) (h1 : Nat.ble (ca + mc') mc = true) (h2 : Nat.ble (sa + ms') ms = true) (hM : Ct d mc' ms' y bytes ml ret (.ref o :: [a1, a2, a3]) L r h post) (kk : ∀ (v : Option Value) (L' : aw_L) (r' : aw_R) (h' : aw_H), post v L' r' h' → AW X nL (pc + 3) ls (v.toList ++ st) L' r' h' (ca + mc') (sa + ms')) : AW X nL pc ls (a3 :: a2 :: a1 :: .ref o :: st) L r h ca sa := aw_callV (as := [a1, a2, a3]) C hd hy hl hi hv hrv hD hw rfl h1 h2 hM kk
theorem aw_S4 {a1 a2 a3 a4 : Value} (C : aw_C X own cc nL D mc ms) (hd : decode cc pc = .ok (.invokestatic ix, 3)) (hy : aw_Y y bytes ml ret 4) (hl : Cond.methodLink own ix y ∈ BG) (hs : Cond.static y ∈ BG) (hD : Nat.blt d D = true) (hw : Nat.ble (st.map fun v => v.category).sum 8 = true) (h1 : Nat.ble (ca + mc') mc = true) (h2 : Nat.ble (sa + ms') ms = true) (hM : Ct d mc' ms' y bytes ml ret [a1, a2, a3, a4] L r h post) (kk : ∀ (v : Option Value) (L' : aw_L) (r' : aw_R) (h' : aw_H), post v L' r' h' → AW X nL (pc + 3) ls (v.toList ++ st) L' r' h' (ca + mc') (sa + ms')) : AW X nL pc ls (a4 :: a3 :: a2 :: a1 :: st) L r h ca sa := aw_callS (as := [a1, a2, a3, a4]) C hd hy hl hs hD hw rfl h1 h2 hM kk
theorem aw_N4 {a1 a2 a3 a4 : Value} (C : aw_C X own cc nL D mc ms) (hd : decode cc pc = .ok (.invokestatic ix, 3)) (hy : aw_Y y bytes ml ret 4) (hl : Cond.methodLinkNest own ix y RX5 ∈ NW) (hs : Cond.static y ∈ BG) (hD : Nat.blt d D = true) (hw : Nat.ble (st.map fun v => v.category).sum 8 = true) (h1 : Nat.ble (ca + mc') mc = true) (h2 : Nat.ble (sa + ms') ms = true) (hM : Ct d mc' ms' y bytes ml ret [a1, a2, a3, a4] L r h post) (kk : ∀ (v : Option Value) (L' : aw_L) (r' : aw_R) (h' : aw_H), post v L' r' h' → AW X nL (pc + 3) ls (v.toList ++ st) L' r' h' (ca + mc') (sa + ms')) : AW X nL pc ls (a4 :: a3 :: a2 :: a1 :: st) L r h ca sa := aw_callSN (as := [a1, a2, a3, a4]) C hd hy hl hs hD hw rfl h1 h2 hM kk
theorem aw_V4 {a1 a2 a3 a4 : Value} (C : aw_C X own cc nL D mc ms) (hd : decode cc pc = .ok (.invokevirtual ix, 3)) (hy : aw_Y y bytes ml ret 4) (hl : Cond.methodLink own ix y ∈ BG) (hi : Cond.instanceMethod y ∈ BG) (hv : Cond.selects y.cls y y ∈ BG) (hrv : aw_Rv X y L r h o) (hD : Nat.blt d D = true) (hw : Nat.ble (st.map fun v => v.category).sum 8 = true) (h1 : Nat.ble (ca + mc') mc = true) (h2 : Nat.ble (sa + ms') ms = true) (hM : Ct d mc' ms' y bytes ml ret (.ref o :: [a1, a2, a3, a4]) L r h post) (kk : ∀ (v : Option Value) (L' : aw_L) (r' : aw_R) (h' : aw_H), post v L' r' h' → AW X nL (pc + 3) ls (v.toList ++ st) L' r' h' (ca + mc') (sa + ms')) : AW X nL pc ls (a4 :: a3 :: a2 :: a1 :: .ref o :: st) L r h ca sa := aw_callV (as := [a1, a2, a3, a4]) C hd hy hl hi hv hrv hD hw rfl h1 h2 hM kk
theorem aw_S5 {a1 a2 a3 a4 a5 : Value} (C : aw_C X own cc nL D mc ms) (hd : decode cc pc = .ok (.invokestatic ix, 3)) (hy : aw_Y y bytes ml ret 5) (hl : Cond.methodLink own ix y ∈ BG) (hs : Cond.static y ∈ BG) (hD : Nat.blt d D = true) (hw : Nat.ble (st.map fun v => v.category).sum 8 = true) (h1 : Nat.ble (ca + mc') mc = true) (h2 : Nat.ble (sa + ms') ms = true) (hM : Ct d mc' ms' y bytes ml ret [a1, a2, a3, a4, a5] L r h post) (kk : ∀ (v : Option Value) (L' : aw_L) (r' : aw_R) (h' : aw_H), post v L' r' h' → AW X nL (pc + 3) ls (v.toList ++ st) L' r' h' (ca + mc') (sa + ms')) : AW X nL pc ls (a5 :: a4 :: a3 :: a2 :: a1 :: st) L r h ca sa := aw_callS (as := [a1, a2, a3, a4, a5]) C hd hy hl hs hD hw rfl h1 h2 hM kk
theorem aw_N5 {a1 a2 a3 a4 a5 : Value} (C : aw_C X own cc nL D mc ms) (hd : decode cc pc = .ok (.invokestatic ix, 3)) (hy : aw_Y y bytes ml ret 5) (hl : Cond.methodLinkNest own ix y RX5 ∈ NW) (hs : Cond.static y ∈ BG) (hD : Nat.blt d D = true) (hw : Nat.ble (st.map fun v => v.category).sum 8 = true) (h1 : Nat.ble (ca + mc') mc = true) (h2 : Nat.ble (sa + ms') ms = true) (hM : Ct d mc' ms' y bytes ml ret [a1, a2, a3, a4, a5] L r h post) (kk : ∀ (v : Option Value) (L' : aw_L) (r' : aw_R) (h' : aw_H), post v L' r' h' → AW X nL (pc + 3) ls (v.toList ++ st) L' r' h' (ca + mc') (sa + ms')) : AW X nL pc ls (a5 :: a4 :: a3 :: a2 :: a1 :: st) L r h ca sa := aw_callSN (as := [a1, a2, a3, a4, a5]) C hd hy hl hs hD hw rfl h1 h2 hM kk
theorem aw_V5 {a1 a2 a3 a4 a5 : Value} (C : aw_C X own cc nL D mc ms) (hd : decode cc pc = .ok (.invokevirtual ix, 3)) (hy : aw_Y y bytes ml ret 5) (hl : Cond.methodLink own ix y ∈ BG) (hi : Cond.instanceMethod y ∈ BG) (hv : Cond.selects y.cls y y ∈ BG) (hrv : aw_Rv X y L r h o) (hD : Nat.blt d D = true) (hw : Nat.ble (st.map fun v => v.category).sum 8 = true) (h1 : Nat.ble (ca + mc') mc = true) (h2 : Nat.ble (sa + ms') ms = true) (hM : Ct d mc' ms' y bytes ml ret (.ref o :: [a1, a2, a3, a4, a5]) L r h post) (kk : ∀ (v : Option Value) (L' : aw_L) (r' : aw_R) (h' : aw_H), post v L' r' h' → AW X nL (pc + 3) ls (v.toList ++ st) L' r' h' (ca + mc') (sa + ms')) : AW X nL pc ls (a5 :: a4 :: a3 :: a2 :: a1 :: .ref o :: st) L r h ca sa := aw_callV (as := [a1, a2, a3, a4, a5]) C hd hy hl hi hv hrv hD hw rfl h1 h2 hM kk
theorem aw_V6 {a1 a2 a3 a4 a5 a6 : Value} (C : aw_C X own cc nL D mc ms) (hd : decode cc pc = .ok (.invokevirtual ix, 3)) (hy : aw_Y y bytes ml ret 6) (hl : Cond.methodLink own ix y ∈ BG) (hi : Cond.instanceMethod y ∈ BG) (hv : Cond.selects y.cls y y ∈ BG) (hrv : aw_Rv X y L r h o) (hD : Nat.blt d D = true) (hw : Nat.ble (st.map fun v => v.category).sum 8 = true) (h1 : Nat.ble (ca + mc') mc = true) (h2 : Nat.ble (sa + ms') ms = true) (hM : Ct d mc' ms' y bytes ml ret (.ref o :: [a1, a2, a3, a4, a5, a6]) L r h post) (kk : ∀ (v : Option Value) (L' : aw_L) (r' : aw_R) (h' : aw_H), post v L' r' h' → AW X nL (pc + 3) ls (v.toList ++ st) L' r' h' (ca + mc') (sa + ms')) : AW X nL pc ls (a6 :: a5 :: a4 :: a3 :: a2 :: a1 :: .ref o :: st) L r h ca sa := aw_callV (as := [a1, a2, a3, a4, a5, a6]) C hd hy hl hi hv hrv hD hw rfl h1 h2 hM kk
theorem aw_V7 {a1 a2 a3 a4 a5 a6 a7 : Value} (C : aw_C X own cc nL D mc ms) (hd : decode cc pc = .ok (.invokevirtual ix, 3)) (hy : aw_Y y bytes ml ret 7) (hl : Cond.methodLink own ix y ∈ BG) (hi : Cond.instanceMethod y ∈ BG) (hv : Cond.selects y.cls y y ∈ BG) (hrv : aw_Rv X y L r h o) (hD : Nat.blt d D = true) (hw : Nat.ble (st.map fun v => v.category).sum 8 = true) (h1 : Nat.ble (ca + mc') mc = true) (h2 : Nat.ble (sa + ms') ms = true) (hM : Ct d mc' ms' y bytes ml ret (.ref o :: [a1, a2, a3, a4, a5, a6, a7]) L r h post) (kk : ∀ (v : Option Value) (L' : aw_L) (r' : aw_R) (h' : aw_H), post v L' r' h' → AW X nL (pc + 3) ls (v.toList ++ st) L' r' h' (ca + mc') (sa + ms')) : AW X nL pc ls (a7 :: a6 :: a5 :: a4 :: a3 :: a2 :: a1 :: .ref o :: st) L r h ca sa := aw_callV (as := [a1, a2, a3, a4, a5, a6, a7]) C hd hy hl hi hv hrv hD hw rfl h1 h2 hM kk
end AWK

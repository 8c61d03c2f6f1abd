/-! fields, arrays, new cells, constants; a method's contract, its start, its ends, its calls -/
def aw_tyk (t : Nat) (ty : FieldType) : Prop := match t with
  | 0 => ty = .int
  | 1 => ty = .long
  | 2 => (∃ n, ty = .object n) ∨ ∃ u, ty = .array u
  | 3 => ty = .boolean
  | _ => False
/-- field k of class ci: its name, descriptor, kind, whether it is final -/
def aw_Fd (ci k : Nat) (Cn fn fd : String) (tk : Nat) (fin : Bool) : Prop := ∃ (T : u_T) (N : Nat) (ty : Nat → FieldType), vwCl[ci]? = some (Cn, T, N) ∧ k < N ∧ T k = (Cn, fn, fd, fin) ∧ (∀ w ∈ u_ws Cn T N, w ∈ BG) ∧ (∀ j, j < N → parseFieldDescriptor (T j).2.2.1 = some (ty j)) ∧ (∀ a, a < N → ∀ b, b < N → a ≠ b → (T a).2.1 ≠ (T b).2.1) ∧ aw_tk ci k = tk ∧ aw_tyk tk (ty k)
/-- an int, a long of a cell becomes v -/
def aw_sI (h : aw_H) (c k : Nat) (v : Int32) : aw_H := (fun d j => if d = c ∧ j = k then v else h.1 d j, h.2)
def aw_sL (h : aw_H) (c k : Nat) (v : Int64) : aw_H := (h.1, fun d j => if d = c ∧ j = k then v else h.2 d j)
def aw_sR (r : aw_R) (c k q : Nat) : aw_R := fun d j => if d = c ∧ j = k then some q else r d j
theorem aw_sI_1 (h : aw_H) (c k : Nat) (v : Int32) (d j : Nat) : (aw_sI h c k v).1 d j = if d = c ∧ j = k then v else h.1 d j := rfl
theorem aw_sI_2 (h : aw_H) (c k : Nat) (v : Int32) : (aw_sI h c k v).2 = h.2 := rfl
theorem aw_sL_1 (h : aw_H) (c k : Nat) (v : Int64) : (aw_sL h c k v).1 = h.1 := rfl
theorem aw_sL_2 (h : aw_H) (c k : Nat) (v : Int64) (d j : Nat) : (aw_sL h c k v).2 d j = if d = c ∧ j = k then v else h.2 d j := rfl
theorem aw_sI_ne {h : aw_H} {c k d : Nat} {v : Int32} (hd : d ≠ c) : (aw_sI h c k v).1 d = h.1 d := by
  funext j
  simp [aw_sI, hd]
theorem aw_sL_ne {h : aw_H} {c k d : Nat} {v : Int64} (hd : d ≠ c) : (aw_sL h c k v).2 d = h.2 d := by
  funext j
  simp [aw_sL, hd]
theorem aw_sR_ne {r : aw_R} {c k d q : Nat} (hd : d ≠ c) : aw_sR r c k q d = r d := by
  funext j
  simp [aw_sR, hd]
theorem aw_in {i : Int32} {n j : Nat} (h : vp_in i n ∧ i.toNatClampNeg = j) : j < n := by
  rw [← h.2]
  exact Nat.not_le.mp fun q => h.1 (Or.inr q)
/-- one cell is another one, the others stay -/
theorem aw_W.one {g : aw_G} {L : aw_L} {r r' : aw_R} {h h' : aw_H} {H H' : Heap} {o : Nat} {kd : Nat × Nat} (hW : aw_W g L r h H) (hn : L.length ≤ 1000) (hB : aw_B g) (ho : L[o]? = some kd) (e2 : H'.size = H.size) (e3 : ∀ q, q ≠ g.2.2.1 o → H'[q]? = H[q]?) (hc : aw_cell g r' h' H' o kd)
    (k1 : ∀ c, c ≠ o → h'.1 c = h.1 c) (k2 : ∀ c, c ≠ o → h'.2 c = h.2 c) (k3 : ∀ c, c ≠ o → r' c = r c) : aw_W g L r' h' H' := by
  refine ⟨e2.trans hW.1, fun c kd' hk => ?_⟩
  by_cases hco : c = o
  · subst hco
    cases ho.symm.trans hk
    exact hc
  · have hlo := (List.getElem?_eq_some_iff.mp ho).1
    have hlc := (List.getElem?_eq_some_iff.mp hk).1
    exact (hW.2 c kd' hk).to (e3 _ (by rw [hB c (by omega), hB o (by omega)]; omega)) (k1 c hco) (k2 c hco) (k3 c hco)
theorem aw_Aof {g : aw_G} {L : aw_L} {o : Nat} {kd : Nat × Nat} (hn : L.length ≤ 1000) (hB : aw_B g) (ho : L[o]? = some kd) : aw_A g (g.2.2.1 o) := by
  have hlo := (List.getElem?_eq_some_iff.mp ho).1
  show g.2.2.2 ≤ _
  rw [hB o (by omega)]
  omega
section AWM
variable {X : aw_X} {own : String} {cc : ByteArray} {nL D mc ms pc : Nat} {ls st : List Value} {L : aw_L} {r : aw_R} {h : aw_H} {ca sa : Nat} {o ci k ix tk : Nat} {Cn fn fd : String} {fin : Bool}
theorem aw_getf (v : Value) (C : aw_C X own cc nL D mc ms) (hd : decode cc pc = .ok (.getfield ix, 3)) (hl : Cond.fieldLink own ix Cn fn fd ∈ BG) (hF : aw_Fd ci k Cn fn fd tk fin) (ho : L[o]? = some (0, ci)) (hv : aw_fv (xd X) r h o ci k = aw_tv (xd X) v)
    (kk : AW X nL (pc + 3) ls (v :: st) L r h ca sa) : AW X nL pc ls (.ref o :: st) L r h ca sa := by
  intro H locs la hW hn hS hL
  obtain ⟨T, N, ty, hc, hk, hT, hin, hty, hnm, -, -⟩ := hF
  obtain ⟨q, hq, cell, q1, q2, q3, q4⟩ := (show ∃ q : vw_C, vwCl[ci]? = some q ∧ t_OB _ _ _ _ _ _ from hW.2 o (0, ci) ho)
  cases hc.symm.trans hq
  obtain ⟨hSl, hfc, kC, hkC, hkind⟩ := C.k.1 ci _ hc
  obtain ⟨cf, kf, fi, f, hi, hsl⟩ := hSl k hk
  have hst := (u_facts hfc hkC (u_lays C.w hin hk) hi).1
  dsimp only at hi
  rw [hT] at hi
  refine W.getf C.x C.b C.o (C.w _ hl) hi hst q1 (by rw [q3]; exact fun h => by cases h) (v := aw_tv (xd X) v) ?_ rfl rfl hd (kk H locs la hW hn hS hL)
  rw [hsl, q4 k hk]
  exact congrArg some hv
theorem aw_getI (C : aw_C X own cc nL D mc ms) (hd : decode cc pc = .ok (.getfield ix, 3)) (hl : Cond.fieldLink own ix Cn fn fd ∈ BG) (hF : aw_Fd ci k Cn fn fd 0 fin) (ho : L[o]? = some (0, ci)) (kk : AW X nL (pc + 3) ls (.int (h.1 o k) :: st) L r h ca sa) : AW X nL pc ls (.ref o :: st) L r h ca sa :=
  aw_getf _ C hd hl hF ho (by obtain ⟨-, -, -, -, -, -, -, -, -, e, -⟩ := hF; simp only [aw_fv, e]; rfl) kk
theorem aw_getZ (C : aw_C X own cc nL D mc ms) (hd : decode cc pc = .ok (.getfield ix, 3)) (hl : Cond.fieldLink own ix Cn fn fd ∈ BG) (hF : aw_Fd ci k Cn fn fd 3 fin) (ho : L[o]? = some (0, ci)) (kk : AW X nL (pc + 3) ls (.int (h.1 o k) :: st) L r h ca sa) : AW X nL pc ls (.ref o :: st) L r h ca sa :=
  aw_getf _ C hd hl hF ho (by obtain ⟨-, -, -, -, -, -, -, -, -, e, -⟩ := hF; simp only [aw_fv, e]; rfl) kk
theorem aw_getL (C : aw_C X own cc nL D mc ms) (hd : decode cc pc = .ok (.getfield ix, 3)) (hl : Cond.fieldLink own ix Cn fn fd ∈ BG) (hF : aw_Fd ci k Cn fn fd 1 fin) (ho : L[o]? = some (0, ci)) (kk : AW X nL (pc + 3) ls (.long (h.2 o k) :: st) L r h ca sa) : AW X nL pc ls (.ref o :: st) L r h ca sa :=
  aw_getf _ C hd hl hF ho (by obtain ⟨-, -, -, -, -, -, -, -, -, e, -⟩ := hF; simp only [aw_fv, e]; rfl) kk
theorem aw_getR {q : Nat} (C : aw_C X own cc nL D mc ms) (hd : decode cc pc = .ok (.getfield ix, 3)) (hl : Cond.fieldLink own ix Cn fn fd ∈ BG) (hF : aw_Fd ci k Cn fn fd 2 fin) (ho : L[o]? = some (0, ci)) (hr : r o k = some q) (kk : AW X nL (pc + 3) ls (.ref q :: st) L r h ca sa) : AW X nL pc ls (.ref o :: st) L r h ca sa :=
  aw_getf _ C hd hl hF ho (by obtain ⟨-, -, -, -, -, -, -, -, -, e, -⟩ := hF; simp only [aw_fv, e, hr]; rfl) kk
/-- a field that isn't final; or a final one where it is made -/
theorem aw_putf {r' : aw_R} {h' : aw_H} (v : Value) (C : aw_C X own cc nL D mc ms) (hd : decode cc pc = .ok (.putfield ix, 3)) (hl : Cond.fieldLink own ix Cn fn fd ∈ BG) (hF : aw_Fd ci k Cn fn fd tk fin) (hfin : fin = false ∨ (fin = true ∧ Cn = own ∧ (xt X).name = "<init>")) (ho : L[o]? = some (0, ci))
    (hnar : ∀ ty, aw_tyk tk ty → narrow ty (aw_tv (xd X) v) = aw_tv (xd X) v ∧ fits ty (aw_tv (xd X) v) = true) (hk1 : aw_tk ci k = tk → aw_fv (xd X) r' h' o ci k = aw_tv (xd X) v) (hk2 : ∀ j, j ≠ k → aw_fv (xd X) r' h' o ci j = aw_fv (xd X) r h o ci j)
    (k1 : ∀ c, c ≠ o → h'.1 c = h.1 c) (k2 : ∀ c, c ≠ o → h'.2 c = h.2 c) (k3 : ∀ c, c ≠ o → r' c = r c)
    (kk : AW X nL (pc + 3) ls st L r' h' ca sa) : AW X nL pc ls (v :: .ref o :: st) L r h ca sa := by
  intro H locs la hW hn hS hL
  obtain ⟨T, N, ty, hc, hk, hT, hin, hty, hnm, htk, htt⟩ := hF
  obtain ⟨q, hq, cell, q1, q2, q3, q4⟩ := (show ∃ q : vw_C, vwCl[ci]? = some q ∧ t_OB _ _ _ _ _ _ from hW.2 o (0, ci) ho)
  cases hc.symm.trans hq
  obtain ⟨hSl, hfc, kC, hkC, hkind⟩ := C.k.1 ci _ hc
  obtain ⟨cf, kf, fi, f, hi, hsl⟩ := hSl k hk
  have hst := (u_facts hfc hkC (u_lays C.w hin hk) hi).1
  have hlay := C.w _ (hin _ (u_in_lay hk))
  have hap : ∀ x y, x < N → y < N → x ≠ y → (xg X).1.2 ci x ≠ (xg X).1.2 ci y := va_apart (D := (xg X).1) (cl := vwCl) (tys := []) (own := own) C.w hin ty hty hnm ⟨C.k.1, fun k q h => by simp at h⟩ hc
  have hdk := hty k hk
  unfold u_lay at hlay
  dsimp only at hi hlay hdk
  rw [hT] at hi hlay hdk
  have done : ∀ H' : Heap, H'[(xg X).2.2.1 o]? = some (cell.setSlot f.slot (aw_tv (xd X) v)) → H'.size = H.size → (∀ q, q ≠ (xg X).2.2.1 o → H'[q]? = H[q]?) → W (xp X) (xl X) (xe X) (xR X) (xs X) (xm X) (xa X) (xb X) (xt X) (xc X) H' (locs ++ [⟨(xg X).2.2.1 o, f.slot⟩]) ca sa (xQ X) (F0 (xm X) (pc + 3) la (st.map (aw_tv (xd X)))) := by
    intro H' e1 e2 e3
    rw [hsl] at e1
    refine kk H' _ la (hW.one hn C.d ho e2 e3 ⟨_, hc, t_OB.to (V := updV (fun j => aw_fv (xd X) r h o ci j) k (aw_tv (xd X) v)) ⟨_, e1, q2, q3, t_set q4 hap hk _⟩ (fun j _ => ?_)⟩ k1 k2 k3) hn (hS.put e2 e3 (aw_Aof hn C.d ho)) hL
    by_cases hj : j = k
    · subst hj
      simp only [updV, if_pos]
      exact (hk1 htk).symm
    · simp only [updV, if_neg hj]
      exact (hk2 j hj).symm
  obtain ⟨hna, hfi⟩ := hnar _ htt
  rcases hfin with hf | ⟨hf, hown, hname⟩
  · rw [if_neg (fun q => by have q' : fin = true := q; rw [hf] at q'; cases q')] at hlay
    have h6 := u_store hfc hkC hkind hlay hi hdk hna hfi
    exact W.putK C.x C.b (f := f) ⟨C.o, C.w _ hl, ⟨_, _, _, hi⟩, hst⟩ (by rw [q2]; exact h6) q1 q3 (by rw [hsl]; exact k2_hasslot (q4 k hk)) rfl rfl hd done
  · rw [if_pos hf] at hlay
    have hcf : (xm X).cls = cf := by
      obtain ⟨_, _, c', _, _, _, -, -, hf', -, -, -, hown2, -⟩ := Cond.laysFinal_spec hlay
      have e1 : c' = cf := by have := hi.symm.trans hf'; simp at this; exact this.1.symm
      have hown2 : (xs X).vm.findClass own = some c' := by rw [← hown]; exact hown2
      rw [← e1]; exact Option.some.inj (C.o.symm.trans hown2)
    have h6 := u_fits hfc hkC hkind (Or.inr hlay) hi hdk hna hfi
    exact W.putFinK C.x C.b C.o (C.w _ hl) hi hst hcf hname (by rw [q2]; exact h6) q1 q3 (by rw [hsl]; exact k2_hasslot (q4 k hk)) rfl rfl hd done
theorem aw_fv_sI {ad : Nat → Nat} {v : Int32} {j : Nat} (hj : j ≠ k) : aw_fv ad r (aw_sI h o k v) o ci j = aw_fv ad r h o ci j := by
  simp [aw_fv, aw_sI, hj]
theorem aw_fv_sL {ad : Nat → Nat} {v : Int64} {j : Nat} (hj : j ≠ k) : aw_fv ad r (aw_sL h o k v) o ci j = aw_fv ad r h o ci j := by
  simp [aw_fv, aw_sL, hj]
theorem aw_putI {v : Int32} (C : aw_C X own cc nL D mc ms) (hd : decode cc pc = .ok (.putfield ix, 3)) (hl : Cond.fieldLink own ix Cn fn fd ∈ BG) (hF : aw_Fd ci k Cn fn fd 0 false) (ho : L[o]? = some (0, ci)) (kk : AW X nL (pc + 3) ls st L r (aw_sI h o k v) ca sa) : AW X nL pc ls (.int v :: .ref o :: st) L r h ca sa :=
  aw_putf _ C hd hl hF (Or.inl rfl) ho (fun ty ht => by cases (show ty = .int from ht); exact ⟨rfl, rfl⟩) (fun e => by simp [aw_fv, e, aw_sI, aw_tv]) (fun j hj => aw_fv_sI hj) (fun c hc => aw_sI_ne hc) (fun _ _ => rfl) (fun _ _ => rfl) kk
theorem aw_putZ {v : Int32} (hv : v = 0 ∨ v = 1) (C : aw_C X own cc nL D mc ms) (hd : decode cc pc = .ok (.putfield ix, 3)) (hl : Cond.fieldLink own ix Cn fn fd ∈ BG) (hF : aw_Fd ci k Cn fn fd 3 false) (ho : L[o]? = some (0, ci)) (kk : AW X nL (pc + 3) ls st L r (aw_sI h o k v) ca sa) : AW X nL pc ls (.int v :: .ref o :: st) L r h ca sa :=
  aw_putf _ C hd hl hF (Or.inl rfl) ho (fun ty ht => by cases (show ty = .boolean from ht); rcases hv with rfl | rfl <;> exact ⟨rfl, rfl⟩) (fun e => by simp [aw_fv, e, aw_sI, aw_tv]) (fun j hj => aw_fv_sI hj) (fun c hc => aw_sI_ne hc) (fun _ _ => rfl) (fun _ _ => rfl) kk
theorem aw_putL {v : Int64} (C : aw_C X own cc nL D mc ms) (hd : decode cc pc = .ok (.putfield ix, 3)) (hl : Cond.fieldLink own ix Cn fn fd ∈ BG) (hF : aw_Fd ci k Cn fn fd 1 false) (ho : L[o]? = some (0, ci)) (kk : AW X nL (pc + 3) ls st L r (aw_sL h o k v) ca sa) : AW X nL pc ls (.long v :: .ref o :: st) L r h ca sa :=
  aw_putf _ C hd hl hF (Or.inl rfl) ho (fun ty ht => by cases (show ty = .long from ht); exact ⟨rfl, rfl⟩) (fun e => by simp [aw_fv, e, aw_sL, aw_tv]) (fun j hj => aw_fv_sL hj) (fun _ _ => rfl) (fun c hc => aw_sL_ne hc) (fun _ _ => rfl) kk
theorem aw_putR {q : Nat} (hi : (xt X).name = "<init>") (hown : Cn = own) (C : aw_C X own cc nL D mc ms) (hd : decode cc pc = .ok (.putfield ix, 3)) (hl : Cond.fieldLink own ix Cn fn fd ∈ BG) (hF : aw_Fd ci k Cn fn fd 2 true) (ho : L[o]? = some (0, ci)) (kk : AW X nL (pc + 3) ls st L (aw_sR r o k q) h ca sa) : AW X nL pc ls (.ref q :: .ref o :: st) L r h ca sa :=
  aw_putf _ C hd hl hF (Or.inr ⟨rfl, hown, hi⟩) ho (fun ty ht => by rcases (show (∃ n, ty = .object n) ∨ ∃ u, ty = .array u from ht) with ⟨n, rfl⟩ | ⟨u, rfl⟩ <;> exact ⟨rfl, rfl⟩) (fun e => by simp [aw_fv, e, aw_sR, aw_tv, va_rf]) (fun j hj => by simp [aw_fv, aw_sR, hj]) (fun _ _ => rfl) (fun _ _ => rfl) (fun c hc => aw_sR_ne hc) kk
/-! arrays -/
theorem aw_iald {n j : Nat} {i : Int32} (C : aw_C X own cc nL D mc ms) (hd : decode cc pc = .ok (.iaload, 1)) (ho : L[o]? = some (1, n)) (hj : vp_in i n ∧ i.toNatClampNeg = j) (kk : AW X nL (pc + 1) ls (.int (h.1 o j) :: st) L r h ca sa) : AW X nL pc ls (.int i :: .ref o :: st) L r h ca sa := by
  intro H locs la hW hn hS hL
  have hlt := aw_in hj
  obtain ⟨hin, rfl⟩ := hj
  exact W.iald (v := .int (h.1 o i.toNatClampNeg)) C.x C.b (show H[(xg X).2.2.1 o]? = some (arrV _ n _) from hW.2 o (1, n) ho) ((C.k.2.1 1 (by decide) (by decide)).1 n _) (fun q => by cases q) (by rw [arrV_size]; exact hin) (by rw [arrV_read _ _ hlt]) rfl rfl hd (kk H locs la hW hn hS hL)
theorem aw_lald {n j : Nat} {i : Int32} (C : aw_C X own cc nL D mc ms) (hd : decode cc pc = .ok (.laload, 1)) (ho : L[o]? = some (2, n)) (hj : vp_in i n ∧ i.toNatClampNeg = j) (kk : AW X nL (pc + 1) ls (.long (h.2 o j) :: st) L r h ca sa) : AW X nL pc ls (.int i :: .ref o :: st) L r h ca sa := by
  intro H locs la hW hn hS hL
  have hlt := aw_in hj
  obtain ⟨hin, rfl⟩ := hj
  exact W.lald (v := .long (h.2 o i.toNatClampNeg)) C.x C.b (show H[(xg X).2.2.1 o]? = some (arrV _ n _) from hW.2 o (2, n) ho) ((C.k.2.1 2 (by decide) (by decide)).1 n _) (fun q => by cases q) (by rw [arrV_size]; exact hin) (by rw [arrV_read _ _ hlt]) rfl rfl hd (kk H locs la hW hn hS hL)
theorem aw_aald {n j t q : Nat} {i : Int32} (C : aw_C X own cc nL D mc ms) (hd : decode cc pc = .ok (.aaload, 1)) (ht : t < 2) (ho : L[o]? = some (t + 3, n)) (hj : vp_in i n ∧ i.toNatClampNeg = j) (hr : r o j = some q) (kk : AW X nL (pc + 1) ls (.ref q :: st) L r h ca sa) : AW X nL pc ls (.int i :: .ref o :: st) L r h ca sa := by
  intro H locs la hW hn hS hL
  have hlt := aw_in hj
  obtain ⟨hin, rfl⟩ := hj
  have hc : H[(xg X).2.2.1 o]? = some (arrV ((xg X).2.1 (t + 3)) n (fun j => va_rf ((r o j).map (xg X).2.2.1))) := hW.2 o (t + 3, n) ho
  have hty : (aw_ty (t + 3)).isReference = true := by
    rcases (show t = 0 ∨ t = 1 by omega) with rfl | rfl <;> rfl
  exact W.aald (v := .ref (xd X q)) (ty := aw_ty (t + 3)) C.x C.b hc ((C.k.2.1 (t + 3) (by omega) (by omega)).1 n _) hty (fun q => by cases q) (by rw [arrV_size]; exact hin) (by rw [arrV_read _ _ hlt, hr]; rfl) rfl rfl hd (kk H locs la hW hn hS hL)
theorem aw_alen {n t : Nat} {v : Int32} (C : aw_C X own cc nL D mc ms) (hd : decode cc pc = .ok (.arraylength, 1)) (ht : t < 2) (ho : L[o]? = some (t + 1, n)) (hv : Int32.ofNat n = v) (kk : AW X nL (pc + 1) ls (.int v :: st) L r h ca sa) : AW X nL pc ls (.ref o :: st) L r h ca sa := by
  intro H locs la hW hn hS hL
  subst hv
  rcases (show t = 0 ∨ t = 1 by omega) with rfl | rfl
  · exact W.alen (n := Int32.ofNat n) C.x C.b (show H[(xg X).2.2.1 o]? = some (arrV _ n _) from hW.2 o (1, n) ho) ((C.k.2.1 1 (by decide) (by decide)).1 n _) (by rw [arrV_size] <;> rfl) rfl rfl hd (kk H locs la hW hn hS hL)
  · exact W.alen (n := Int32.ofNat n) C.x C.b (show H[(xg X).2.2.1 o]? = some (arrV _ n _) from hW.2 o (2, n) ho) ((C.k.2.1 2 (by decide) (by decide)).1 n _) (by rw [arrV_size] <;> rfl) rfl rfl hd (kk H locs la hW hn hS hL)
theorem aw_iast {n j : Nat} {i x : Int32} (C : aw_C X own cc nL D mc ms) (hd : decode cc pc = .ok (.iastore, 1)) (ho : L[o]? = some (1, n)) (hj : vp_in i n ∧ i.toNatClampNeg = j) (kk : AW X nL (pc + 1) ls st L r (aw_sI h o j x) ca sa) : AW X nL pc ls (.int x :: .int i :: .ref o :: st) L r h ca sa := by
  intro H locs la hW hn hS hL
  obtain ⟨hin, rfl⟩ := hj
  refine W.iast C.x C.b (show H[(xg X).2.2.1 o]? = some (arrV _ n _) from hW.2 o (1, n) ho) ((C.k.2.1 1 (by decide) (by decide)).1 n _) (fun q => by cases q) (by rw [arrV_size]; exact hin) rfl rfl hd fun H' e z oq => ?_
  refine kk H' _ la (hW.one hn C.d ho z oq ?_ (fun c hc => aw_sI_ne hc) (fun _ _ => rfl) (fun _ _ => rfl)) hn (hS.put z oq (aw_Aof hn C.d ho)) hL
  show H'[(xg X).2.2.1 o]? = some _
  rw [e, arrV_store]
  congr 2
  funext q
  by_cases hq : q = i.toNatClampNeg
  · simp [updV, aw_sI, hq]
  · simp [updV, aw_sI, hq]
theorem aw_last {n j : Nat} {i : Int32} {x : Int64} (C : aw_C X own cc nL D mc ms) (hd : decode cc pc = .ok (.lastore, 1)) (ho : L[o]? = some (2, n)) (hj : vp_in i n ∧ i.toNatClampNeg = j) (kk : AW X nL (pc + 1) ls st L r (aw_sL h o j x) ca sa) : AW X nL pc ls (.long x :: .int i :: .ref o :: st) L r h ca sa := by
  intro H locs la hW hn hS hL
  obtain ⟨hin, rfl⟩ := hj
  refine W.last C.x C.b (show H[(xg X).2.2.1 o]? = some (arrV _ n _) from hW.2 o (2, n) ho) ((C.k.2.1 2 (by decide) (by decide)).1 n _) (fun q => by cases q) (by rw [arrV_size]; exact hin) rfl rfl hd fun H' e z oq => ?_
  refine kk H' _ la (hW.one hn C.d ho z oq ?_ (fun _ _ => rfl) (fun c hc => aw_sL_ne hc) (fun _ _ => rfl)) hn (hS.put z oq (aw_Aof hn C.d ho)) hL
  show H'[(xg X).2.2.1 o]? = some _
  rw [e, arrV_store]
  congr 2
  funext q
  by_cases hq : q = i.toNatClampNeg
  · simp [updV, aw_sL, hq]
  · simp [updV, aw_sL, hq]
theorem aw_aast {n j q cq : Nat} {i : Int32} {t : Nat} {T : u_T} {N : Nat} (C : aw_C X own cc nL D mc ms) (hd : decode cc pc = .ok (.aastore, 1)) (ht : (t = 0 ∧ Cn = RX3) ∨ (t = 1 ∧ Cn = RX1)) (ho : L[o]? = some (t + 3, n)) (hq : L[q]? = some (0, cq)) (hcq : vwCl[cq]? = some (Cn, T, N)) (hj : vp_in i n ∧ i.toNatClampNeg = j) (kk : AW X nL (pc + 1) ls st L (aw_sR r o j q) h ca sa) : AW X nL pc ls (.ref q :: .int i :: .ref o :: st) L r h ca sa := by
  intro H locs la hW hn hS hL
  have hlt := aw_in hj
  obtain ⟨hin, rfl⟩ := hj
  have hc : H[(xg X).2.2.1 o]? = some (arrV ((xg X).2.1 (t + 3)) n (fun j => va_rf ((r o j).map (xg X).2.2.1))) := hW.2 o (t + 3, n) ho
  obtain ⟨q', hq', cellV, g1, g2, g3, -⟩ := (show ∃ q : vw_C, vwCl[cq]? = some q ∧ t_OB _ _ _ _ _ _ from hW.2 q (0, cq) hq)
  cases hcq.symm.trans hq'
  obtain ⟨-, hfc, kC, hkC, hkind⟩ := C.k.1 cq _ hcq
  have hty : aw_ty (t + 3) = .object Cn := by
    rcases ht with ⟨rfl, rfl⟩ | ⟨rfl, rfl⟩ <;> rfl
  obtain ⟨hAr, hRA⟩ := C.k.2.1 (t + 3) (by omega) (by rcases ht with ⟨rfl, -⟩ | ⟨rfl, -⟩ <;> omega)
  rw [hty] at hRA hAr
  obtain ⟨kA, comp, k1, k2, k3, -⟩ := hRA
  have hcomp : comp = (xg X).1.1 cq := Option.some.inj (k3.symm.trans hfc)
  subst hcomp
  refine W.aast C.x C.b hc (fun q h => by cases h) (fun h => by cases h) k1 k2 rfl hkC ⟨fun q => hin (Or.inl q), by rw [arrV_size]; exact hlt⟩ g1 (fun q h => by rw [g3] at h; cases h) (by rw [g2]; exact hkC) (by rw [g2]; exact va_assign ⟨hfc, kC, hkC, hkind⟩) rfl rfl hd fun H' e z oq => ?_
  refine kk H' _ la (hW.one hn C.d ho z oq ?_ (fun _ _ => rfl) (fun _ _ => rfl) (fun c hc => aw_sR_ne hc)) hn (hS.put z oq (aw_Aof hn C.d ho)) hL
  show H'[(xg X).2.2.1 o]? = some _
  rw [e, arrV_store]
  congr 2
  funext z
  by_cases hz : z = i.toNatClampNeg
  · simp [updV, aw_sR, hz, va_rf]
  · simp [updV, aw_sR, hz]
/-! new cells -/
def aw_zI (h : aw_H) (c : Nat) : aw_H := (fun d j => if d = c then 0 else h.1 d j, fun d j => if d = c then 0 else h.2 d j)
def aw_zR (r : aw_R) (c : Nat) : aw_R := fun d j => if d = c then none else r d j
theorem aw_W.new {g : aw_G} {L : aw_L} {r : aw_R} {h : aw_H} {H H' : Heap} {kd : Nat × Nat} (hW : aw_W g L r h H) (hn : L.length < 1000) (hB : aw_B g) (e2 : H'.size = H.size + 1) (e3 : ∀ q, q < H.size → H'[q]? = H[q]?) (hc : aw_cell g (aw_zR r L.length) (aw_zI h L.length) H' L.length kd) : aw_W g (L ++ [kd]) (aw_zR r L.length) (aw_zI h L.length) H' := by
  refine ⟨by rw [e2, hW.1, List.length_append]; rfl, fun c kd' hk => ?_⟩
  by_cases hl : c < L.length
  · rw [List.getElem?_append_left hl] at hk
    have hne : c ≠ L.length := Nat.ne_of_lt hl
    have h1 := hW.2 c kd' hk
    exact h1.to (e3 _ h1.lt) (by funext j; simp [aw_zI, hne]) (by funext j; simp [aw_zI, hne]) (by funext j; simp [aw_zR, hne])
  · rw [List.getElem?_append_right (by omega)] at hk
    have hz : c - L.length < 1 := (List.getElem?_eq_some_iff.mp hk).1
    have hc0 : c = L.length := by omega
    subst hc0
    rw [Nat.sub_self] at hk
    cases hk
    exact hc
theorem aw_newo {T : u_T} {N : Nat} {ty : Nat → FieldType} (C : aw_C X own cc nL D mc ms) (hd : decode cc pc = .ok (.new ix, 3)) (hcl : Cond.classLink own ix Cn ∈ BG) (hins : Cond.instantiable Cn N ∈ BG) (hini : Cond.initialized Cn ∈ BG) (hc : vwCl[ci]? = some (Cn, T, N)) (hin : ∀ w ∈ u_ws Cn T N, w ∈ BG) (hty : ∀ j, j < N → parseFieldDescriptor (T j).2.2.1 = some (ty j)) (htk : ∀ j, j < N → aw_tyk (aw_tk ci j) (ty j)) (hn : Nat.blt L.length 1000 = true) (hca : Nat.ble (ca + 1) mc = true) (hsa : Nat.ble (sa + N) ms = true)
    (kk : AW X nL (pc + 3) ls (.ref L.length :: st) (L ++ [(0, ci)]) (aw_zR r L.length) (aw_zI h L.length) (ca + 1) (sa + N)) : AW X nL pc ls st L r h ca sa := by
  intro H locs la hW hn' hS hL
  have hn : L.length < 1000 := Nat.le_of_ble_eq_true hn
  obtain ⟨-, -, hRc, hRs⟩ := C.2.2.2.2.2.2.2
  have hKn := C.k.1 ci _ hc
  refine W.newcK C.x C.b C.o (C.w _ hcl) (C.w _ hins) (C.w _ hini) rfl hd (by rw [hRc]; exact Nat.le_of_ble_eq_true hca) (by rw [hRs]; exact Nat.le_of_ble_eq_true hsa) hKn.2.1 rfl fun H1 kC hkC e1 z1 o1 => ?_
  have hb : (xg X).2.2.1 L.length = H.size := by rw [C.d _ hn, hW.1]
  have ob := u_born (H := H1) (o := H.size) ty C.w hin hKn hkC e1 hty
  have hcell : aw_cell (xg X) (aw_zR r L.length) (aw_zI h L.length) H1 L.length (0, ci) := by
    refine ⟨_, hc, ?_⟩
    rw [hb]
    refine ob.to (fun j hj => ?_)
    have ht := htk j hj
    have hz : aw_fv (xg X).2.2.1 (aw_zR r L.length) (aw_zI h L.length) L.length ci j = match aw_tk ci j with
        | 1 => .long 0
        | 2 => .null
        | _ => .int 0 := by
      simp only [aw_fv, aw_zR, aw_zI, if_pos]
      rfl
    show defaultValue (ty j) = aw_fv (xg X).2.2.1 (aw_zR r L.length) (aw_zI h L.length) L.length ci j
    rw [hz]
    generalize aw_tk ci j = t at ht ⊢
    match t, ht with
    | 0, ht => rw [show ty j = .int from ht]; rfl
    | 1, ht => rw [show ty j = .long from ht]; rfl
    | 2, ht => rcases (show (∃ n, ty j = .object n) ∨ ∃ u, ty j = .array u from ht) with ⟨n, e⟩ | ⟨u, e⟩ <;> (rw [e]; rfl)
    | 3, ht => rw [show ty j = .boolean from ht]; rfl
    | t + 4, ht => exact absurd ht (fun q => q)
  have key := kk H1 locs la (hW.new hn C.d z1 o1 hcell) (by rw [List.length_append]; exact hn) ⟨Nat.le_trans hS.1 (by omega), fun q h1 h2 => (o1 q (Nat.lt_of_lt_of_le h1 hS.1)).trans (hS.2.1 q h1 h2), hS.2.2⟩ hL
  rw [List.map_cons, show aw_tv (xd X) (.ref L.length) = .ref H.size from congrArg Value.ref hb] at key
  exact key
end AWM

/-! THE LAW: its loop as a function of the script (s j for j < m), from the place where both objects are made -/
section CWV
variable {X : aw_X} {own : String} {cc : ByteArray} {nL D mc ms pc : Nat} {ls st : List Value} {L : aw_L} {r : aw_R} {h : aw_H} {ca sa : Nat}
def aw_SC (X : aw_X) (m : Nat) (s : Nat → Int32) : Prop := va_T .int ((xg X).2.2.1 1400) m (fun j => .int (s j)) (aw_A (xg X)) (xs X) (xs X).heap
theorem aw_sald {m j : Nat} {s : Nat → Int32} {i : Int32} (SC : aw_SC X m s) (C : aw_C X own cc nL D mc ms) (hd : decode cc pc = .ok (.iaload, 1)) (hj : vp_in i m ∧ i.toNatClampNeg = j) (kk : AW X nL (pc + 1) ls (.int (s j) :: st) L r h ca sa) : AW X nL pc ls (.int i :: .ref 1400 :: st) L r h ca sa :=
  fun H locs la hW hn hS hL => va_ti C.x C.b SC hS hj.1 (v := .int (s j)) (by rw [hj.2]) hd (kk H locs la hW hn hS hL)
theorem aw_slen {m : Nat} {s : Nat → Int32} (SC : aw_SC X m s) (C : aw_C X own cc nL D mc ms) (hd : decode cc pc = .ok (.arraylength, 1)) (kk : AW X nL (pc + 1) ls (.int (Int32.ofNat m) :: st) L r h ca sa) : AW X nL pc ls (.ref 1400 :: st) L r h ca sa :=
  fun H locs la hW hn hS hL => va_tlen C.x C.b SC hS rfl hd (kk H locs la hW hn hS hL)
theorem cw_V0i {d ix ml : Nat} {y : MethodName} {bytes : ByteArray} {ret : Option FieldType} {h1 : aw_H}{e : Int32}  {o : Nat} (C : aw_C X own cc nL D mc ms) (hd : decode cc pc = .ok (.invokevirtual ix, 3)) (hy : aw_Y y bytes ml ret 0) (hl : Cond.methodLink own ix y ∈ BG) (hi : Cond.instanceMethod y ∈ BG) (hv : Cond.selects y.cls y y ∈ BG) (hrv : aw_Rv X y wL wR h o) (hD : Nat.blt d D = true) (hw : Nat.ble (st.map fun v => v.category).sum 8 = true) (hM : Ct d 0 0 y bytes ml ret (.ref o :: []) wL wR h (aw_D (some (.int e)) h1)) (hca : Nat.ble ca mc = true) (hsa : Nat.ble sa ms = true) (kk : AW X nL (pc + 3) ls (.int e :: st) wL wR h1 ca sa) : AW X nL pc ls (.ref o :: st) wL wR h ca sa := aw_V0 (mc' := 0) (ms' := 0) C hd hy hl hi hv hrv hD hw hca hsa hM (fun v L' r' h' q => by obtain ⟨rfl, rfl, rfl, rfl⟩ := q; exact kk)
theorem cw_V0l {d ix ml : Nat} {y : MethodName} {bytes : ByteArray} {ret : Option FieldType} {h1 : aw_H}{e : Int64}  {o : Nat} (C : aw_C X own cc nL D mc ms) (hd : decode cc pc = .ok (.invokevirtual ix, 3)) (hy : aw_Y y bytes ml ret 0) (hl : Cond.methodLink own ix y ∈ BG) (hi : Cond.instanceMethod y ∈ BG) (hv : Cond.selects y.cls y y ∈ BG) (hrv : aw_Rv X y wL wR h o) (hD : Nat.blt d D = true) (hw : Nat.ble (st.map fun v => v.category).sum 8 = true) (hM : Ct d 0 0 y bytes ml ret (.ref o :: []) wL wR h (aw_D (some (.long e)) h1)) (hca : Nat.ble ca mc = true) (hsa : Nat.ble sa ms = true) (kk : AW X nL (pc + 3) ls (.long e :: st) wL wR h1 ca sa) : AW X nL pc ls (.ref o :: st) wL wR h ca sa := aw_V0 (mc' := 0) (ms' := 0) C hd hy hl hi hv hrv hD hw hca hsa hM (fun v L' r' h' q => by obtain ⟨rfl, rfl, rfl, rfl⟩ := q; exact kk)
theorem cw_V1i {d ix ml : Nat} {y : MethodName} {bytes : ByteArray} {ret : Option FieldType} {h1 : aw_H}{e : Int32}  {a1 : Value} {o : Nat} (C : aw_C X own cc nL D mc ms) (hd : decode cc pc = .ok (.invokevirtual ix, 3)) (hy : aw_Y y bytes ml ret 1) (hl : Cond.methodLink own ix y ∈ BG) (hi : Cond.instanceMethod y ∈ BG) (hv : Cond.selects y.cls y y ∈ BG) (hrv : aw_Rv X y wL wR h o) (hD : Nat.blt d D = true) (hw : Nat.ble (st.map fun v => v.category).sum 8 = true) (hM : Ct d 0 0 y bytes ml ret (.ref o :: [a1]) wL wR h (aw_D (some (.int e)) h1)) (hca : Nat.ble ca mc = true) (hsa : Nat.ble sa ms = true) (kk : AW X nL (pc + 3) ls (.int e :: st) wL wR h1 ca sa) : AW X nL pc ls (a1 :: .ref o :: st) wL wR h ca sa := aw_V1 (mc' := 0) (ms' := 0) C hd hy hl hi hv hrv hD hw hca hsa hM (fun v L' r' h' q => by obtain ⟨rfl, rfl, rfl, rfl⟩ := q; exact kk)
theorem cw_V1l {d ix ml : Nat} {y : MethodName} {bytes : ByteArray} {ret : Option FieldType} {h1 : aw_H}{e : Int64}  {a1 : Value} {o : Nat} (C : aw_C X own cc nL D mc ms) (hd : decode cc pc = .ok (.invokevirtual ix, 3)) (hy : aw_Y y bytes ml ret 1) (hl : Cond.methodLink own ix y ∈ BG) (hi : Cond.instanceMethod y ∈ BG) (hv : Cond.selects y.cls y y ∈ BG) (hrv : aw_Rv X y wL wR h o) (hD : Nat.blt d D = true) (hw : Nat.ble (st.map fun v => v.category).sum 8 = true) (hM : Ct d 0 0 y bytes ml ret (.ref o :: [a1]) wL wR h (aw_D (some (.long e)) h1)) (hca : Nat.ble ca mc = true) (hsa : Nat.ble sa ms = true) (kk : AW X nL (pc + 3) ls (.long e :: st) wL wR h1 ca sa) : AW X nL pc ls (a1 :: .ref o :: st) wL wR h ca sa := aw_V1 (mc' := 0) (ms' := 0) C hd hy hl hi hv hrv hD hw hca hsa hM (fun v L' r' h' q => by obtain ⟨rfl, rfl, rfl, rfl⟩ := q; exact kk)
theorem cw_V2i {d ix ml : Nat} {y : MethodName} {bytes : ByteArray} {ret : Option FieldType} {h1 : aw_H}{e : Int32}  {a1 a2 : Value} {o : Nat} (C : aw_C X own cc nL D mc ms) (hd : decode cc pc = .ok (.invokevirtual ix, 3)) (hy : aw_Y y bytes ml ret 2) (hl : Cond.methodLink own ix y ∈ BG) (hi : Cond.instanceMethod y ∈ BG) (hv : Cond.selects y.cls y y ∈ BG) (hrv : aw_Rv X y wL wR h o) (hD : Nat.blt d D = true) (hw : Nat.ble (st.map fun v => v.category).sum 8 = true) (hM : Ct d 0 0 y bytes ml ret (.ref o :: [a1, a2]) wL wR h (aw_D (some (.int e)) h1)) (hca : Nat.ble ca mc = true) (hsa : Nat.ble sa ms = true) (kk : AW X nL (pc + 3) ls (.int e :: st) wL wR h1 ca sa) : AW X nL pc ls (a2 :: a1 :: .ref o :: st) wL wR h ca sa := aw_V2 (mc' := 0) (ms' := 0) C hd hy hl hi hv hrv hD hw hca hsa hM (fun v L' r' h' q => by obtain ⟨rfl, rfl, rfl, rfl⟩ := q; exact kk)
theorem cw_V2l {d ix ml : Nat} {y : MethodName} {bytes : ByteArray} {ret : Option FieldType} {h1 : aw_H}{e : Int64}  {a1 a2 : Value} {o : Nat} (C : aw_C X own cc nL D mc ms) (hd : decode cc pc = .ok (.invokevirtual ix, 3)) (hy : aw_Y y bytes ml ret 2) (hl : Cond.methodLink own ix y ∈ BG) (hi : Cond.instanceMethod y ∈ BG) (hv : Cond.selects y.cls y y ∈ BG) (hrv : aw_Rv X y wL wR h o) (hD : Nat.blt d D = true) (hw : Nat.ble (st.map fun v => v.category).sum 8 = true) (hM : Ct d 0 0 y bytes ml ret (.ref o :: [a1, a2]) wL wR h (aw_D (some (.long e)) h1)) (hca : Nat.ble ca mc = true) (hsa : Nat.ble sa ms = true) (kk : AW X nL (pc + 3) ls (.long e :: st) wL wR h1 ca sa) : AW X nL pc ls (a2 :: a1 :: .ref o :: st) wL wR h ca sa := aw_V2 (mc' := 0) (ms' := 0) C hd hy hl hi hv hrv hD hw hca hsa hM (fun v L' r' h' q => by obtain ⟨rfl, rfl, rfl, rfl⟩ := q; exact kk)
theorem cw_V3i {d ix ml : Nat} {y : MethodName} {bytes : ByteArray} {ret : Option FieldType} {h1 : aw_H}{e : Int32}  {a1 a2 a3 : Value} {o : Nat} (C : aw_C X own cc nL D mc ms) (hd : decode cc pc = .ok (.invokevirtual ix, 3)) (hy : aw_Y y bytes ml ret 3) (hl : Cond.methodLink own ix y ∈ BG) (hi : Cond.instanceMethod y ∈ BG) (hv : Cond.selects y.cls y y ∈ BG) (hrv : aw_Rv X y wL wR h o) (hD : Nat.blt d D = true) (hw : Nat.ble (st.map fun v => v.category).sum 8 = true) (hM : Ct d 0 0 y bytes ml ret (.ref o :: [a1, a2, a3]) wL wR h (aw_D (some (.int e)) h1)) (hca : Nat.ble ca mc = true) (hsa : Nat.ble sa ms = true) (kk : AW X nL (pc + 3) ls (.int e :: st) wL wR h1 ca sa) : AW X nL pc ls (a3 :: a2 :: a1 :: .ref o :: st) wL wR h ca sa := aw_V3 (mc' := 0) (ms' := 0) C hd hy hl hi hv hrv hD hw hca hsa hM (fun v L' r' h' q => by obtain ⟨rfl, rfl, rfl, rfl⟩ := q; exact kk)
theorem cw_V3l {d ix ml : Nat} {y : MethodName} {bytes : ByteArray} {ret : Option FieldType} {h1 : aw_H}{e : Int64}  {a1 a2 a3 : Value} {o : Nat} (C : aw_C X own cc nL D mc ms) (hd : decode cc pc = .ok (.invokevirtual ix, 3)) (hy : aw_Y y bytes ml ret 3) (hl : Cond.methodLink own ix y ∈ BG) (hi : Cond.instanceMethod y ∈ BG) (hv : Cond.selects y.cls y y ∈ BG) (hrv : aw_Rv X y wL wR h o) (hD : Nat.blt d D = true) (hw : Nat.ble (st.map fun v => v.category).sum 8 = true) (hM : Ct d 0 0 y bytes ml ret (.ref o :: [a1, a2, a3]) wL wR h (aw_D (some (.long e)) h1)) (hca : Nat.ble ca mc = true) (hsa : Nat.ble sa ms = true) (kk : AW X nL (pc + 3) ls (.long e :: st) wL wR h1 ca sa) : AW X nL pc ls (a3 :: a2 :: a1 :: .ref o :: st) wL wR h ca sa := aw_V3 (mc' := 0) (ms' := 0) C hd hy hl hi hv hrv hD hw hca hsa hM (fun v L' r' h' q => by obtain ⟨rfl, rfl, rfl, rfl⟩ := q; exact kk)
theorem cw_V4i {d ix ml : Nat} {y : MethodName} {bytes : ByteArray} {ret : Option FieldType} {h1 : aw_H}{e : Int32}  {a1 a2 a3 a4 : Value} {o : Nat} (C : aw_C X own cc nL D mc ms) (hd : decode cc pc = .ok (.invokevirtual ix, 3)) (hy : aw_Y y bytes ml ret 4) (hl : Cond.methodLink own ix y ∈ BG) (hi : Cond.instanceMethod y ∈ BG) (hv : Cond.selects y.cls y y ∈ BG) (hrv : aw_Rv X y wL wR h o) (hD : Nat.blt d D = true) (hw : Nat.ble (st.map fun v => v.category).sum 8 = true) (hM : Ct d 0 0 y bytes ml ret (.ref o :: [a1, a2, a3, a4]) wL wR h (aw_D (some (.int e)) h1)) (hca : Nat.ble ca mc = true) (hsa : Nat.ble sa ms = true) (kk : AW X nL (pc + 3) ls (.int e :: st) wL wR h1 ca sa) : AW X nL pc ls (a4 :: a3 :: a2 :: a1 :: .ref o :: st) wL wR h ca sa := aw_V4 (mc' := 0) (ms' := 0) C hd hy hl hi hv hrv hD hw hca hsa hM (fun v L' r' h' q => by obtain ⟨rfl, rfl, rfl, rfl⟩ := q; exact kk)
theorem cw_V4l {d ix ml : Nat} {y : MethodName} {bytes : ByteArray} {ret : Option FieldType} {h1 : aw_H}{e : Int64}  {a1 a2 a3 a4 : Value} {o : Nat} (C : aw_C X own cc nL D mc ms) (hd : decode cc pc = .ok (.invokevirtual ix, 3)) (hy : aw_Y y bytes ml ret 4) (hl : Cond.methodLink own ix y ∈ BG) (hi : Cond.instanceMethod y ∈ BG) (hv : Cond.selects y.cls y y ∈ BG) (hrv : aw_Rv X y wL wR h o) (hD : Nat.blt d D = true) (hw : Nat.ble (st.map fun v => v.category).sum 8 = true) (hM : Ct d 0 0 y bytes ml ret (.ref o :: [a1, a2, a3, a4]) wL wR h (aw_D (some (.long e)) h1)) (hca : Nat.ble ca mc = true) (hsa : Nat.ble sa ms = true) (kk : AW X nL (pc + 3) ls (.long e :: st) wL wR h1 ca sa) : AW X nL pc ls (a4 :: a3 :: a2 :: a1 :: .ref o :: st) wL wR h ca sa := aw_V4 (mc' := 0) (ms' := 0) C hd hy hl hi hv hrv hD hw hca hsa hM (fun v L' r' h' q => by obtain ⟨rfl, rfl, rfl, rfl⟩ := q; exact kk)
theorem cw_V5i {d ix ml : Nat} {y : MethodName} {bytes : ByteArray} {ret : Option FieldType} {h1 : aw_H}{e : Int32}  {a1 a2 a3 a4 a5 : Value} {o : Nat} (C : aw_C X own cc nL D mc ms) (hd : decode cc pc = .ok (.invokevirtual ix, 3)) (hy : aw_Y y bytes ml ret 5) (hl : Cond.methodLink own ix y ∈ BG) (hi : Cond.instanceMethod y ∈ BG) (hv : Cond.selects y.cls y y ∈ BG) (hrv : aw_Rv X y wL wR h o) (hD : Nat.blt d D = true) (hw : Nat.ble (st.map fun v => v.category).sum 8 = true) (hM : Ct d 0 0 y bytes ml ret (.ref o :: [a1, a2, a3, a4, a5]) wL wR h (aw_D (some (.int e)) h1)) (hca : Nat.ble ca mc = true) (hsa : Nat.ble sa ms = true) (kk : AW X nL (pc + 3) ls (.int e :: st) wL wR h1 ca sa) : AW X nL pc ls (a5 :: a4 :: a3 :: a2 :: a1 :: .ref o :: st) wL wR h ca sa := aw_V5 (mc' := 0) (ms' := 0) C hd hy hl hi hv hrv hD hw hca hsa hM (fun v L' r' h' q => by obtain ⟨rfl, rfl, rfl, rfl⟩ := q; exact kk)
theorem cw_V5l {d ix ml : Nat} {y : MethodName} {bytes : ByteArray} {ret : Option FieldType} {h1 : aw_H}{e : Int64}  {a1 a2 a3 a4 a5 : Value} {o : Nat} (C : aw_C X own cc nL D mc ms) (hd : decode cc pc = .ok (.invokevirtual ix, 3)) (hy : aw_Y y bytes ml ret 5) (hl : Cond.methodLink own ix y ∈ BG) (hi : Cond.instanceMethod y ∈ BG) (hv : Cond.selects y.cls y y ∈ BG) (hrv : aw_Rv X y wL wR h o) (hD : Nat.blt d D = true) (hw : Nat.ble (st.map fun v => v.category).sum 8 = true) (hM : Ct d 0 0 y bytes ml ret (.ref o :: [a1, a2, a3, a4, a5]) wL wR h (aw_D (some (.long e)) h1)) (hca : Nat.ble ca mc = true) (hsa : Nat.ble sa ms = true) (kk : AW X nL (pc + 3) ls (.long e :: st) wL wR h1 ca sa) : AW X nL pc ls (a5 :: a4 :: a3 :: a2 :: a1 :: .ref o :: st) wL wR h ca sa := aw_V5 (mc' := 0) (ms' := 0) C hd hy hl hi hv hrv hD hw hca hsa hM (fun v L' r' h' q => by obtain ⟨rfl, rfl, rfl, rfl⟩ := q; exact kk)
theorem cw_V6i {d ix ml : Nat} {y : MethodName} {bytes : ByteArray} {ret : Option FieldType} {h1 : aw_H}{e : Int32}  {a1 a2 a3 a4 a5 a6 : Value} {o : Nat} (C : aw_C X own cc nL D mc ms) (hd : decode cc pc = .ok (.invokevirtual ix, 3)) (hy : aw_Y y bytes ml ret 6) (hl : Cond.methodLink own ix y ∈ BG) (hi : Cond.instanceMethod y ∈ BG) (hv : Cond.selects y.cls y y ∈ BG) (hrv : aw_Rv X y wL wR h o) (hD : Nat.blt d D = true) (hw : Nat.ble (st.map fun v => v.category).sum 8 = true) (hM : Ct d 0 0 y bytes ml ret (.ref o :: [a1, a2, a3, a4, a5, a6]) wL wR h (aw_D (some (.int e)) h1)) (hca : Nat.ble ca mc = true) (hsa : Nat.ble sa ms = true) (kk : AW X nL (pc + 3) ls (.int e :: st) wL wR h1 ca sa) : AW X nL pc ls (a6 :: a5 :: a4 :: a3 :: a2 :: a1 :: .ref o :: st) wL wR h ca sa := aw_V6 (mc' := 0) (ms' := 0) C hd hy hl hi hv hrv hD hw hca hsa hM (fun v L' r' h' q => by obtain ⟨rfl, rfl, rfl, rfl⟩ := q; exact kk)
theorem cw_V6l {d ix ml : Nat} {y : MethodName} {bytes : ByteArray} {ret : Option FieldType} {h1 : aw_H}{e : Int64}  {a1 a2 a3 a4 a5 a6 : Value} {o : Nat} (C : aw_C X own cc nL D mc ms) (hd : decode cc pc = .ok (.invokevirtual ix, 3)) (hy : aw_Y y bytes ml ret 6) (hl : Cond.methodLink own ix y ∈ BG) (hi : Cond.instanceMethod y ∈ BG) (hv : Cond.selects y.cls y y ∈ BG) (hrv : aw_Rv X y wL wR h o) (hD : Nat.blt d D = true) (hw : Nat.ble (st.map fun v => v.category).sum 8 = true) (hM : Ct d 0 0 y bytes ml ret (.ref o :: [a1, a2, a3, a4, a5, a6]) wL wR h (aw_D (some (.long e)) h1)) (hca : Nat.ble ca mc = true) (hsa : Nat.ble sa ms = true) (kk : AW X nL (pc + 3) ls (.long e :: st) wL wR h1 ca sa) : AW X nL pc ls (a6 :: a5 :: a4 :: a3 :: a2 :: a1 :: .ref o :: st) wL wR h ca sa := aw_V6 (mc' := 0) (ms' := 0) C hd hy hl hi hv hrv hD hw hca hsa hM (fun v L' r' h' q => by obtain ⟨rfl, rfl, rfl, rfl⟩ := q; exact kk)
end CWV
def BL_law_18 (n : Nat) (m : Nat) (s : Nat → Int32) (u18 : (Int32 × aw_H)) : Option ((Int32 × aw_H) ⊕ (Int32 × aw_H)) :=
  (if ((Int32.ofNat m) - (7 : Int32)) < u18.1 then some (Sum.inr ((1 : Int32), u18.2)) else (if aw_inb u18.1 m = true then (if ((s (u18.1).toNatClampNeg) &&& (63 : Int32)) = (0 : Int32) then (if aw_inb (u18.1 + (1 : Int32)) m = true then (if aw_inb (u18.1 + (2 : Int32)) m = true then (if aw_inb (u18.1 + (3 : Int32)) m = true then (if aw_inb (u18.1 + (4 : Int32)) m = true then ((FX5_part n (s ((u18.1 + (1 : Int32))).toNatClampNeg) (s ((u18.1 + (2 : Int32))).toNatClampNeg) (s ((u18.1 + (3 : Int32))).toNatClampNeg) (s ((u18.1 + (4 : Int32))).toNatClampNeg) u18.2).bind (fun q6 => (if aw_inb (u18.1 + (1 : Int32)) m = true then (if aw_inb (u18.1 + (2 : Int32)) m = true then (if aw_inb (u18.1 + (3 : Int32)) m = true then (if aw_inb (u18.1 + (4 : Int32)) m = true then ((FX6_part (s ((u18.1 + (1 : Int32))).toNatClampNeg) (s ((u18.1 + (2 : Int32))).toNatClampNeg) (s ((u18.1 + (3 : Int32))).toNatClampNeg) (s ((u18.1 + (4 : Int32))).toNatClampNeg) q6.2).bind (fun q12 => (if q6.1 = q12.1 then some (Sum.inl ((u18.1 + (7 : Int32)), q12.2)) else some (Sum.inr ((0 : Int32), q12.2))))) else none) else none) else none) else none))) else none) else none) else none) else none) else (if ((s (u18.1).toNatClampNeg) &&& (63 : Int32)) = (1 : Int32) then ((FX5_drop u18.2).bind (fun q15 => ((FX6_drop q15.2).bind (fun q17 => (if q15.1 = q17.1 then some (Sum.inl ((u18.1 + (7 : Int32)), q17.2)) else some (Sum.inr ((0 : Int32), q17.2))))))) else (if ((s (u18.1).toNatClampNeg) &&& (63 : Int32)) = (2 : Int32) then (if aw_inb (u18.1 + (1 : Int32)) m = true then (if aw_inb (u18.1 + (2 : Int32)) m = true then (if aw_inb (u18.1 + (3 : Int32)) m = true then ((FX5_gear n (s ((u18.1 + (1 : Int32))).toNatClampNeg) (s ((u18.1 + (2 : Int32))).toNatClampNeg) (s ((u18.1 + (3 : Int32))).toNatClampNeg) u18.2).bind (fun q23 => (if aw_inb (u18.1 + (1 : Int32)) m = true then (if aw_inb (u18.1 + (2 : Int32)) m = true then (if aw_inb (u18.1 + (3 : Int32)) m = true then ((FX6_gear (s ((u18.1 + (1 : Int32))).toNatClampNeg) (s ((u18.1 + (2 : Int32))).toNatClampNeg) (s ((u18.1 + (3 : Int32))).toNatClampNeg) q23.2).bind (fun q28 => (if q23.1 = q28.1 then some (Sum.inl ((u18.1 + (7 : Int32)), q28.2)) else some (Sum.inr ((0 : Int32), q28.2))))) else none) else none) else none))) else none) else none) else none) else (if ((s (u18.1).toNatClampNeg) &&& (63 : Int32)) = (3 : Int32) then (if aw_inb (u18.1 + (1 : Int32)) m = true then ((FX5_ungear n (s ((u18.1 + (1 : Int32))).toNatClampNeg) u18.2).bind (fun q32 => (if aw_inb (u18.1 + (1 : Int32)) m = true then ((FX6_ungear (s ((u18.1 + (1 : Int32))).toNatClampNeg) q32.2).bind (fun q35 => (if q32.1 = q35.1 then some (Sum.inl ((u18.1 + (7 : Int32)), q35.2)) else some (Sum.inr ((0 : Int32), q35.2))))) else none))) else none) else (if ((s (u18.1).toNatClampNeg) &&& (63 : Int32)) = (4 : Int32) then (if aw_inb (u18.1 + (1 : Int32)) m = true then ((FX5_shaft n (s ((u18.1 + (1 : Int32))).toNatClampNeg) u18.2).bind (fun q39 => (if aw_inb (u18.1 + (1 : Int32)) m = true then ((FX6_shaft (s ((u18.1 + (1 : Int32))).toNatClampNeg) q39.2).bind (fun q42 => (if q39.1 = q42.1 then some (Sum.inl ((u18.1 + (7 : Int32)), q42.2)) else some (Sum.inr ((0 : Int32), q42.2))))) else none))) else none) else (if ((s (u18.1).toNatClampNeg) &&& (63 : Int32)) = (5 : Int32) then (if aw_inb (u18.1 + (1 : Int32)) m = true then (if aw_inb (u18.1 + (2 : Int32)) m = true then (if aw_inb (u18.1 + (3 : Int32)) m = true then ((FX5_set (s ((u18.1 + (1 : Int32))).toNatClampNeg) (s ((u18.1 + (2 : Int32))).toNatClampNeg) (s ((u18.1 + (3 : Int32))).toNatClampNeg) u18.2).bind (fun q48 => (if aw_inb (u18.1 + (1 : Int32)) m = true then (if aw_inb (u18.1 + (2 : Int32)) m = true then (if aw_inb (u18.1 + (3 : Int32)) m = true then ((FX6_set (s ((u18.1 + (1 : Int32))).toNatClampNeg) (s ((u18.1 + (2 : Int32))).toNatClampNeg) (s ((u18.1 + (3 : Int32))).toNatClampNeg) q48.2).bind (fun q53 => (if q48.1 = q53.1 then some (Sum.inl ((u18.1 + (7 : Int32)), q53.2)) else some (Sum.inr ((0 : Int32), q53.2))))) else none) else none) else none))) else none) else none) else none) else (if ((s (u18.1).toNatClampNeg) &&& (63 : Int32)) = (6 : Int32) then (if aw_inb (u18.1 + (1 : Int32)) m = true then (if aw_inb (u18.1 + (2 : Int32)) m = true then ((FX5_kind (s ((u18.1 + (1 : Int32))).toNatClampNeg) (s ((u18.1 + (2 : Int32))).toNatClampNeg) u18.2).bind (fun q58 => (if aw_inb (u18.1 + (1 : Int32)) m = true then (if aw_inb (u18.1 + (2 : Int32)) m = true then ((FX6_kind (s ((u18.1 + (1 : Int32))).toNatClampNeg) (s ((u18.1 + (2 : Int32))).toNatClampNeg) q58.2).bind (fun q62 => (if q58.1 = q62.1 then some (Sum.inl ((u18.1 + (7 : Int32)), q62.2)) else some (Sum.inr ((0 : Int32), q62.2))))) else none) else none))) else none) else none) else (if ((s (u18.1).toNatClampNeg) &&& (63 : Int32)) = (7 : Int32) then (if aw_inb (u18.1 + (1 : Int32)) m = true then (if aw_inb (u18.1 + (2 : Int32)) m = true then ((FX5_of (s ((u18.1 + (1 : Int32))).toNatClampNeg) (s ((u18.1 + (2 : Int32))).toNatClampNeg) u18.2).bind (fun q67 => (if aw_inb (u18.1 + (1 : Int32)) m = true then (if aw_inb (u18.1 + (2 : Int32)) m = true then ((FX6_of (s ((u18.1 + (1 : Int32))).toNatClampNeg) (s ((u18.1 + (2 : Int32))).toNatClampNeg) u18.2).bind (fun q71 => (if q67 = q71 then some (Sum.inl ((u18.1 + (7 : Int32)), u18.2)) else some (Sum.inr ((0 : Int32), u18.2))))) else none) else none))) else none) else none) else (if ((s (u18.1).toNatClampNeg) &&& (63 : Int32)) = (8 : Int32) then (if aw_inb (u18.1 + (1 : Int32)) m = true then (if aw_inb (u18.1 + (2 : Int32)) m = true then ((FX5_taken (s ((u18.1 + (1 : Int32))).toNatClampNeg) (s ((u18.1 + (2 : Int32))).toNatClampNeg) u18.2).bind (fun q76 => (if aw_inb (u18.1 + (1 : Int32)) m = true then (if aw_inb (u18.1 + (2 : Int32)) m = true then ((FX6_taken n (s ((u18.1 + (1 : Int32))).toNatClampNeg) (s ((u18.1 + (2 : Int32))).toNatClampNeg) u18.2).bind (fun q80 => (if q76 = q80 then some (Sum.inl ((u18.1 + (7 : Int32)), u18.2)) else some (Sum.inr ((0 : Int32), u18.2))))) else none) else none))) else none) else none) else (if ((s (u18.1).toNatClampNeg) &&& (63 : Int32)) = (9 : Int32) then (if aw_inb (u18.1 + (1 : Int32)) m = true then (if aw_inb (u18.1 + (2 : Int32)) m = true then ((FX5_jam n (s ((u18.1 + (1 : Int32))).toNatClampNeg) (s ((u18.1 + (2 : Int32))).toNatClampNeg) u18.2).bind (fun q85 => (if aw_inb (u18.1 + (1 : Int32)) m = true then (if aw_inb (u18.1 + (2 : Int32)) m = true then ((FX6_jam n (s ((u18.1 + (1 : Int32))).toNatClampNeg) (s ((u18.1 + (2 : Int32))).toNatClampNeg) u18.2).bind (fun q89 => (if q85 = q89 then some (Sum.inl ((u18.1 + (7 : Int32)), u18.2)) else some (Sum.inr ((0 : Int32), u18.2))))) else none) else none))) else none) else none) else (if ((s (u18.1).toNatClampNeg) &&& (63 : Int32)) = (10 : Int32) then (if aw_inb (u18.1 + (1 : Int32)) m = true then (if aw_inb (u18.1 + (2 : Int32)) m = true then ((FX5_speed (s ((u18.1 + (1 : Int32))).toNatClampNeg) (s ((u18.1 + (2 : Int32))).toNatClampNeg) u18.2).bind (fun q94 => (if aw_inb (u18.1 + (1 : Int32)) m = true then (if aw_inb (u18.1 + (2 : Int32)) m = true then ((FX6_speed n (s ((u18.1 + (1 : Int32))).toNatClampNeg) (s ((u18.1 + (2 : Int32))).toNatClampNeg) u18.2).bind (fun q98 => (if (lg_cmp q94 q98) = 0 then some (Sum.inl ((u18.1 + (7 : Int32)), u18.2)) else some (Sum.inr ((0 : Int32), u18.2))))) else none) else none))) else none) else none) else (if ((s (u18.1).toNatClampNeg) &&& (63 : Int32)) = (11 : Int32) then (if aw_inb (u18.1 + (1 : Int32)) m = true then ((FX5_turn (s ((u18.1 + (1 : Int32))).toNatClampNeg) u18.2).bind (fun q102 => (if aw_inb (u18.1 + (1 : Int32)) m = true then ((FX6_turn (s ((u18.1 + (1 : Int32))).toNatClampNeg) q102.2).bind (fun q105 => (if q102.1 = q105.1 then some (Sum.inl ((u18.1 + (7 : Int32)), q105.2)) else some (Sum.inr ((0 : Int32), q105.2))))) else none))) else none) else (if ((s (u18.1).toNatClampNeg) &&& (63 : Int32)) = (12 : Int32) then ((FX5_height n u18.2).bind (fun q108 => ((FX6_height n u18.2).bind (fun q110 => (if (lg_cmp q108 q110) = 0 then some (Sum.inl ((u18.1 + (7 : Int32)), u18.2)) else some (Sum.inr ((0 : Int32), u18.2))))))) else (if ((s (u18.1).toNatClampNeg) &&& (63 : Int32)) = (13 : Int32) then (if aw_inb (u18.1 + (1 : Int32)) m = true then ((FX5_heightAt n (s ((u18.1 + (1 : Int32))).toNatClampNeg) u18.2).bind (fun q114 => (if aw_inb (u18.1 + (1 : Int32)) m = true then ((FX6_heightAt n (s ((u18.1 + (1 : Int32))).toNatClampNeg) u18.2).bind (fun q117 => (if (lg_cmp q114 q117) = 0 then some (Sum.inl ((u18.1 + (7 : Int32)), u18.2)) else some (Sum.inr ((0 : Int32), u18.2))))) else none))) else none) else (if ((s (u18.1).toNatClampNeg) &&& (63 : Int32)) = (14 : Int32) then (if aw_inb (u18.1 + (1 : Int32)) m = true then (if aw_inb (u18.1 + (2 : Int32)) m = true then ((FX5_heightOf (s ((u18.1 + (1 : Int32))).toNatClampNeg) (s ((u18.1 + (2 : Int32))).toNatClampNeg) u18.2).bind (fun q122 => (if aw_inb (u18.1 + (1 : Int32)) m = true then (if aw_inb (u18.1 + (2 : Int32)) m = true then ((FX6_heightOf n (s ((u18.1 + (1 : Int32))).toNatClampNeg) (s ((u18.1 + (2 : Int32))).toNatClampNeg) u18.2).bind (fun q126 => (if (lg_cmp q122 q126) = 0 then some (Sum.inl ((u18.1 + (7 : Int32)), u18.2)) else some (Sum.inr ((0 : Int32), u18.2))))) else none) else none))) else none) else none) else (if ((s (u18.1).toNatClampNeg) &&& (63 : Int32)) = (15 : Int32) then (if aw_inb (u18.1 + (1 : Int32)) m = true then (if aw_inb (u18.1 + (2 : Int32)) m = true then ((FX5_place (s ((u18.1 + (1 : Int32))).toNatClampNeg) (s ((u18.1 + (2 : Int32))).toNatClampNeg) u18.2).bind (fun q131 => (if aw_inb (u18.1 + (1 : Int32)) m = true then (if aw_inb (u18.1 + (2 : Int32)) m = true then ((FX6_place n (s ((u18.1 + (1 : Int32))).toNatClampNeg) (s ((u18.1 + (2 : Int32))).toNatClampNeg) u18.2).bind (fun q135 => (if q131 = q135 then some (Sum.inl ((u18.1 + (7 : Int32)), u18.2)) else some (Sum.inr ((0 : Int32), u18.2))))) else none) else none))) else none) else none) else (if ((s (u18.1).toNatClampNeg) &&& (63 : Int32)) = (16 : Int32) then (if aw_inb (u18.1 + (1 : Int32)) m = true then (if aw_inb (u18.1 + (2 : Int32)) m = true then (if aw_inb (u18.1 + (3 : Int32)) m = true then ((FX5_waters n (s ((u18.1 + (1 : Int32))).toNatClampNeg) (s ((u18.1 + (2 : Int32))).toNatClampNeg) (s ((u18.1 + (3 : Int32))).toNatClampNeg) u18.2).bind (fun q141 => (if aw_inb (u18.1 + (1 : Int32)) m = true then (if aw_inb (u18.1 + (2 : Int32)) m = true then (if aw_inb (u18.1 + (3 : Int32)) m = true then ((FX6_waters n (s ((u18.1 + (1 : Int32))).toNatClampNeg) (s ((u18.1 + (2 : Int32))).toNatClampNeg) (s ((u18.1 + (3 : Int32))).toNatClampNeg) q141.2).bind (fun q146 => (if q141.1 = q146.1 then some (Sum.inl ((u18.1 + (7 : Int32)), q146.2)) else some (Sum.inr ((0 : Int32), q146.2))))) else none) else none) else none))) else none) else none) else none) else (if ((s (u18.1).toNatClampNeg) &&& (63 : Int32)) = (17 : Int32) then (if aw_inb (u18.1 + (1 : Int32)) m = true then (if aw_inb (u18.1 + (2 : Int32)) m = true then (if aw_inb (u18.1 + (3 : Int32)) m = true then (if aw_inb (u18.1 + (4 : Int32)) m = true then ((FX5_water n (s ((u18.1 + (1 : Int32))).toNatClampNeg) (s ((u18.1 + (2 : Int32))).toNatClampNeg) (s ((u18.1 + (3 : Int32))).toNatClampNeg) (s ((u18.1 + (4 : Int32))).toNatClampNeg) u18.2).bind (fun q153 => (if aw_inb (u18.1 + (1 : Int32)) m = true then (if aw_inb (u18.1 + (2 : Int32)) m = true then (if aw_inb (u18.1 + (3 : Int32)) m = true then (if aw_inb (u18.1 + (4 : Int32)) m = true then ((FX6_water n (s ((u18.1 + (1 : Int32))).toNatClampNeg) (s ((u18.1 + (2 : Int32))).toNatClampNeg) (s ((u18.1 + (3 : Int32))).toNatClampNeg) (s ((u18.1 + (4 : Int32))).toNatClampNeg) q153.2).bind (fun q159 => (if q153.1 = q159.1 then some (Sum.inl ((u18.1 + (7 : Int32)), q159.2)) else some (Sum.inr ((0 : Int32), q159.2))))) else none) else none) else none) else none))) else none) else none) else none) else none) else (if ((s (u18.1).toNatClampNeg) &&& (63 : Int32)) = (18 : Int32) then (if aw_inb (u18.1 + (1 : Int32)) m = true then (if aw_inb (u18.1 + (2 : Int32)) m = true then (if aw_inb (u18.1 + (3 : Int32)) m = true then ((FX5_tells n (s ((u18.1 + (1 : Int32))).toNatClampNeg) (s ((u18.1 + (2 : Int32))).toNatClampNeg) (s ((u18.1 + (3 : Int32))).toNatClampNeg) u18.2).bind (fun q165 => (if aw_inb (u18.1 + (1 : Int32)) m = true then (if aw_inb (u18.1 + (2 : Int32)) m = true then (if aw_inb (u18.1 + (3 : Int32)) m = true then ((FX6_tells n (s ((u18.1 + (1 : Int32))).toNatClampNeg) (s ((u18.1 + (2 : Int32))).toNatClampNeg) (s ((u18.1 + (3 : Int32))).toNatClampNeg) q165.2).bind (fun q170 => (if q165.1 = q170.1 then some (Sum.inl ((u18.1 + (7 : Int32)), q170.2)) else some (Sum.inr ((0 : Int32), q170.2))))) else none) else none) else none))) else none) else none) else none) else (if ((s (u18.1).toNatClampNeg) &&& (63 : Int32)) = (19 : Int32) then (if aw_inb (u18.1 + (1 : Int32)) m = true then (if aw_inb (u18.1 + (2 : Int32)) m = true then (if aw_inb (u18.1 + (3 : Int32)) m = true then (if aw_inb (u18.1 + (4 : Int32)) m = true then (if aw_inb (u18.1 + (5 : Int32)) m = true then ((FX5_refound n (s ((u18.1 + (1 : Int32))).toNatClampNeg) (s ((u18.1 + (2 : Int32))).toNatClampNeg) (s ((u18.1 + (3 : Int32))).toNatClampNeg) (s ((u18.1 + (4 : Int32))).toNatClampNeg) (s ((u18.1 + (5 : Int32))).toNatClampNeg) u18.2).bind (fun q178 => (if aw_inb (u18.1 + (1 : Int32)) m = true then (if aw_inb (u18.1 + (2 : Int32)) m = true then (if aw_inb (u18.1 + (3 : Int32)) m = true then (if aw_inb (u18.1 + (4 : Int32)) m = true then (if aw_inb (u18.1 + (5 : Int32)) m = true then ((FX6_refound n (s ((u18.1 + (1 : Int32))).toNatClampNeg) (s ((u18.1 + (2 : Int32))).toNatClampNeg) (s ((u18.1 + (3 : Int32))).toNatClampNeg) (s ((u18.1 + (4 : Int32))).toNatClampNeg) (s ((u18.1 + (5 : Int32))).toNatClampNeg) q178.2).bind (fun q185 => (if q178.1 = q185.1 then some (Sum.inl ((u18.1 + (7 : Int32)), q185.2)) else some (Sum.inr ((0 : Int32), q185.2))))) else none) else none) else none) else none) else none))) else none) else none) else none) else none) else none) else (if ((s (u18.1).toNatClampNeg) &&& (63 : Int32)) = (20 : Int32) then (if aw_inb (u18.1 + (1 : Int32)) m = true then (if aw_inb (u18.1 + (2 : Int32)) m = true then (if aw_inb (u18.1 + (3 : Int32)) m = true then ((FX5_film n (s ((u18.1 + (1 : Int32))).toNatClampNeg) (s ((u18.1 + (2 : Int32))).toNatClampNeg) (s ((u18.1 + (3 : Int32))).toNatClampNeg) u18.2).bind (fun q191 => (if aw_inb (u18.1 + (1 : Int32)) m = true then (if aw_inb (u18.1 + (2 : Int32)) m = true then (if aw_inb (u18.1 + (3 : Int32)) m = true then ((FX6_film n (s ((u18.1 + (1 : Int32))).toNatClampNeg) (s ((u18.1 + (2 : Int32))).toNatClampNeg) (s ((u18.1 + (3 : Int32))).toNatClampNeg) q191.2).bind (fun q196 => (if q191.1 = q196.1 then some (Sum.inl ((u18.1 + (7 : Int32)), q196.2)) else some (Sum.inr ((0 : Int32), q196.2))))) else none) else none) else none))) else none) else none) else none) else (if ((s (u18.1).toNatClampNeg) &&& (63 : Int32)) = (21 : Int32) then (if aw_inb (u18.1 + (1 : Int32)) m = true then (if aw_inb (u18.1 + (2 : Int32)) m = true then ((FX5_nearest n (s ((u18.1 + (1 : Int32))).toNatClampNeg) (s ((u18.1 + (2 : Int32))).toNatClampNeg)).bind (fun q201 => (if aw_inb (u18.1 + (1 : Int32)) m = true then (if aw_inb (u18.1 + (2 : Int32)) m = true then ((FX6_nearest n (s ((u18.1 + (1 : Int32))).toNatClampNeg) (s ((u18.1 + (2 : Int32))).toNatClampNeg)).bind (fun q205 => (if q201 = q205 then some (Sum.inl ((u18.1 + (7 : Int32)), u18.2)) else some (Sum.inr ((0 : Int32), u18.2))))) else none) else none))) else none) else none) else (if ((s (u18.1).toNatClampNeg) &&& (63 : Int32)) = (22 : Int32) then (if aw_inb (u18.1 + (1 : Int32)) m = true then (if aw_inb (u18.1 + (2 : Int32)) m = true then (if aw_inb (u18.1 + (3 : Int32)) m = true then (if aw_inb (u18.1 + (4 : Int32)) m = true then ((FX5_off n (s ((u18.1 + (1 : Int32))).toNatClampNeg) (s ((u18.1 + (2 : Int32))).toNatClampNeg) (s ((u18.1 + (3 : Int32))).toNatClampNeg) (s ((u18.1 + (4 : Int32))).toNatClampNeg) u18.2).bind (fun q212 => (if aw_inb (u18.1 + (1 : Int32)) m = true then (if aw_inb (u18.1 + (2 : Int32)) m = true then (if aw_inb (u18.1 + (3 : Int32)) m = true then (if aw_inb (u18.1 + (4 : Int32)) m = true then ((FX6_off n (s ((u18.1 + (1 : Int32))).toNatClampNeg) (s ((u18.1 + (2 : Int32))).toNatClampNeg) (s ((u18.1 + (3 : Int32))).toNatClampNeg) (s ((u18.1 + (4 : Int32))).toNatClampNeg) u18.2).bind (fun q218 => (if (lg_cmp q212 q218) = 0 then some (Sum.inl ((u18.1 + (7 : Int32)), u18.2)) else some (Sum.inr ((0 : Int32), u18.2))))) else none) else none) else none) else none))) else none) else none) else none) else none) else (if ((s (u18.1).toNatClampNeg) &&& (63 : Int32)) = (23 : Int32) then (if aw_inb (u18.1 + (1 : Int32)) m = true then ((FX5_alike n (s ((u18.1 + (1 : Int32))).toNatClampNeg) u18.2).bind (fun q222 => (if aw_inb (u18.1 + (1 : Int32)) m = true then ((FX6_alike n (s ((u18.1 + (1 : Int32))).toNatClampNeg) u18.2).bind (fun q225 => (if q222 = q225 then some (Sum.inl ((u18.1 + (7 : Int32)), u18.2)) else some (Sum.inr ((0 : Int32), u18.2))))) else none))) else none) else (if ((s (u18.1).toNatClampNeg) &&& (63 : Int32)) = (24 : Int32) then (if aw_inb (u18.1 + (1 : Int32)) m = true then (if aw_inb (u18.1 + (2 : Int32)) m = true then ((FX5_drawn n (s ((u18.1 + (1 : Int32))).toNatClampNeg) (s ((u18.1 + (2 : Int32))).toNatClampNeg) u18.2).bind (fun q230 => (if aw_inb (u18.1 + (1 : Int32)) m = true then (if aw_inb (u18.1 + (2 : Int32)) m = true then ((FX6_drawn n (s ((u18.1 + (1 : Int32))).toNatClampNeg) (s ((u18.1 + (2 : Int32))).toNatClampNeg) q230.2).bind (fun q234 => (if (lg_cmp q230.1 q234.1) = 0 then some (Sum.inl ((u18.1 + (7 : Int32)), q234.2)) else some (Sum.inr ((0 : Int32), q234.2))))) else none) else none))) else none) else none) else (if ((s (u18.1).toNatClampNeg) &&& (63 : Int32)) = (25 : Int32) then (if aw_inb (u18.1 + (1 : Int32)) m = true then (if aw_inb (u18.1 + (2 : Int32)) m = true then (if aw_inb (u18.1 + (3 : Int32)) m = true then (if aw_inb (u18.1 + (4 : Int32)) m = true then (if aw_inb (u18.1 + (5 : Int32)) m = true then ((FX5_chance n (s ((u18.1 + (1 : Int32))).toNatClampNeg) (s ((u18.1 + (2 : Int32))).toNatClampNeg) (s ((u18.1 + (3 : Int32))).toNatClampNeg) (s ((u18.1 + (4 : Int32))).toNatClampNeg) (s ((u18.1 + (5 : Int32))).toNatClampNeg) u18.2).bind (fun q242 => (if aw_inb (u18.1 + (1 : Int32)) m = true then (if aw_inb (u18.1 + (2 : Int32)) m = true then (if aw_inb (u18.1 + (3 : Int32)) m = true then (if aw_inb (u18.1 + (4 : Int32)) m = true then (if aw_inb (u18.1 + (5 : Int32)) m = true then ((FX6_chance n (s ((u18.1 + (1 : Int32))).toNatClampNeg) (s ((u18.1 + (2 : Int32))).toNatClampNeg) (s ((u18.1 + (3 : Int32))).toNatClampNeg) (s ((u18.1 + (4 : Int32))).toNatClampNeg) (s ((u18.1 + (5 : Int32))).toNatClampNeg) q242.2).bind (fun q249 => (if q242.1 = q249.1 then some (Sum.inl ((u18.1 + (7 : Int32)), q249.2)) else some (Sum.inr ((0 : Int32), q249.2))))) else none) else none) else none) else none) else none))) else none) else none) else none) else none) else none) else (if ((s (u18.1).toNatClampNeg) &&& (63 : Int32)) = (26 : Int32) then (if aw_inb (u18.1 + (1 : Int32)) m = true then (if aw_inb (u18.1 + (2 : Int32)) m = true then (if aw_inb (u18.1 + (3 : Int32)) m = true then (if aw_inb (u18.1 + (4 : Int32)) m = true then (if aw_inb (u18.1 + (5 : Int32)) m = true then (if aw_inb (u18.1 + (6 : Int32)) m = true then ((FX5_feed n (s ((u18.1 + (1 : Int32))).toNatClampNeg) (s ((u18.1 + (2 : Int32))).toNatClampNeg) (s ((u18.1 + (3 : Int32))).toNatClampNeg) (s ((u18.1 + (4 : Int32))).toNatClampNeg) (s ((u18.1 + (5 : Int32))).toNatClampNeg) (s ((u18.1 + (6 : Int32))).toNatClampNeg) u18.2).bind (fun q258 => (if aw_inb (u18.1 + (1 : Int32)) m = true then (if aw_inb (u18.1 + (2 : Int32)) m = true then (if aw_inb (u18.1 + (3 : Int32)) m = true then (if aw_inb (u18.1 + (4 : Int32)) m = true then (if aw_inb (u18.1 + (5 : Int32)) m = true then (if aw_inb (u18.1 + (6 : Int32)) m = true then ((FX6_feed n (s ((u18.1 + (1 : Int32))).toNatClampNeg) (s ((u18.1 + (2 : Int32))).toNatClampNeg) (s ((u18.1 + (3 : Int32))).toNatClampNeg) (s ((u18.1 + (4 : Int32))).toNatClampNeg) (s ((u18.1 + (5 : Int32))).toNatClampNeg) (s ((u18.1 + (6 : Int32))).toNatClampNeg) q258.2).bind (fun q266 => (if q258.1 = q266.1 then some (Sum.inl ((u18.1 + (7 : Int32)), q266.2)) else some (Sum.inr ((0 : Int32), q266.2))))) else none) else none) else none) else none) else none) else none))) else none) else none) else none) else none) else none) else none) else (if ((s (u18.1).toNatClampNeg) &&& (63 : Int32)) = (27 : Int32) then ((FX5_text n u18.2).bind (fun q269 => ((FX6_text n q269.2).bind (fun q271 => (if q269.1 = q271.1 then some (Sum.inl ((u18.1 + (7 : Int32)), q271.2)) else some (Sum.inr ((0 : Int32), q271.2))))))) else (if ((s (u18.1).toNatClampNeg) &&& (63 : Int32)) = (28 : Int32) then ((FX5_image n u18.2).bind (fun q274 => ((FX6_image q274.2).bind (fun q276 => (if q274.1 = q276.1 then some (Sum.inl ((u18.1 + (7 : Int32)), q276.2)) else some (Sum.inr ((0 : Int32), q276.2))))))) else (if ((s (u18.1).toNatClampNeg) &&& (63 : Int32)) = (29 : Int32) then ((FX5_back n u18.2).bind (fun q279 => ((FX6_back q279.2).bind (fun q281 => (if q279.1 = q281.1 then some (Sum.inl ((u18.1 + (7 : Int32)), q281.2)) else some (Sum.inr ((0 : Int32), q281.2))))))) else (if ((s (u18.1).toNatClampNeg) &&& (63 : Int32)) = (30 : Int32) then (if aw_inb (u18.1 + (1 : Int32)) m = true then (if aw_inb (u18.1 + (2 : Int32)) m = true then (if aw_inb (u18.1 + (3 : Int32)) m = true then (if aw_inb (u18.1 + (4 : Int32)) m = true then ((FX5_load n (s ((u18.1 + (1 : Int32))).toNatClampNeg) (s ((u18.1 + (2 : Int32))).toNatClampNeg) (s ((u18.1 + (3 : Int32))).toNatClampNeg) (s ((u18.1 + (4 : Int32))).toNatClampNeg) u18.2).bind (fun q288 => (if aw_inb (u18.1 + (1 : Int32)) m = true then (if aw_inb (u18.1 + (2 : Int32)) m = true then (if aw_inb (u18.1 + (3 : Int32)) m = true then (if aw_inb (u18.1 + (4 : Int32)) m = true then ((FX6_load n (s ((u18.1 + (1 : Int32))).toNatClampNeg) (s ((u18.1 + (2 : Int32))).toNatClampNeg) (s ((u18.1 + (3 : Int32))).toNatClampNeg) (s ((u18.1 + (4 : Int32))).toNatClampNeg) q288.2).bind (fun q294 => (if q288.1 = q294.1 then some (Sum.inl ((u18.1 + (7 : Int32)), q294.2)) else some (Sum.inr ((0 : Int32), q294.2))))) else none) else none) else none) else none))) else none) else none) else none) else none) else (if ((s (u18.1).toNatClampNeg) &&& (63 : Int32)) = (31 : Int32) then (if aw_inb (u18.1 + (1 : Int32)) m = true then ((FX5_count n (s ((u18.1 + (1 : Int32))).toNatClampNeg) u18.2).bind (fun q298 => (if aw_inb (u18.1 + (1 : Int32)) m = true then ((FX6_count n (s ((u18.1 + (1 : Int32))).toNatClampNeg) u18.2).bind (fun q301 => (if q298 = q301 then some (Sum.inl ((u18.1 + (7 : Int32)), u18.2)) else some (Sum.inr ((0 : Int32), u18.2))))) else none))) else none) else (if ((s (u18.1).toNatClampNeg) &&& (63 : Int32)) = (32 : Int32) then (if aw_inb (u18.1 + (1 : Int32)) m = true then (if aw_inb (u18.1 + (2 : Int32)) m = true then (if aw_inb (u18.1 + (3 : Int32)) m = true then ((FX5_sheet n (s ((u18.1 + (1 : Int32))).toNatClampNeg) (s ((u18.1 + (2 : Int32))).toNatClampNeg) (s ((u18.1 + (3 : Int32))).toNatClampNeg) u18.2).bind (fun q307 => (if aw_inb (u18.1 + (1 : Int32)) m = true then (if aw_inb (u18.1 + (2 : Int32)) m = true then (if aw_inb (u18.1 + (3 : Int32)) m = true then ((FX6_sheet n (s ((u18.1 + (1 : Int32))).toNatClampNeg) (s ((u18.1 + (2 : Int32))).toNatClampNeg) (s ((u18.1 + (3 : Int32))).toNatClampNeg) q307.2).bind (fun q312 => (if q307.1 = q312.1 then some (Sum.inl ((u18.1 + (7 : Int32)), q312.2)) else some (Sum.inr ((0 : Int32), q312.2))))) else none) else none) else none))) else none) else none) else none) else (if ((s (u18.1).toNatClampNeg) &&& (63 : Int32)) = (33 : Int32) then (if aw_inb (u18.1 + (1 : Int32)) m = true then (if aw_inb (u18.1 + (2 : Int32)) m = true then (if aw_inb (u18.1 + (3 : Int32)) m = true then (if aw_inb (u18.1 + (4 : Int32)) m = true then ((FX5_put (s ((u18.1 + (1 : Int32))).toNatClampNeg) (s ((u18.1 + (2 : Int32))).toNatClampNeg) ((((s ((u18.1 + (3 : Int32))).toNatClampNeg)).toInt64 <<< (((32 : Int32)).toInt64 &&& 63)) ||| (((s ((u18.1 + (4 : Int32))).toNatClampNeg)).toInt64 &&& (4294967295 : Int64))) u18.2).bind (fun q319 => (if aw_inb (u18.1 + (1 : Int32)) m = true then (if aw_inb (u18.1 + (2 : Int32)) m = true then (if aw_inb (u18.1 + (3 : Int32)) m = true then (if aw_inb (u18.1 + (4 : Int32)) m = true then ((FX6_put (s ((u18.1 + (1 : Int32))).toNatClampNeg) (s ((u18.1 + (2 : Int32))).toNatClampNeg) ((((s ((u18.1 + (3 : Int32))).toNatClampNeg)).toInt64 <<< (((32 : Int32)).toInt64 &&& 63)) ||| (((s ((u18.1 + (4 : Int32))).toNatClampNeg)).toInt64 &&& (4294967295 : Int64))) q319.2).bind (fun q325 => (if q319.1 = q325.1 then some (Sum.inl ((u18.1 + (7 : Int32)), q325.2)) else some (Sum.inr ((0 : Int32), q325.2))))) else none) else none) else none) else none))) else none) else none) else none) else none) else (if ((s (u18.1).toNatClampNeg) &&& (63 : Int32)) = (34 : Int32) then (if aw_inb (u18.1 + (1 : Int32)) m = true then (if aw_inb (u18.1 + (2 : Int32)) m = true then ((FX5_item (s ((u18.1 + (1 : Int32))).toNatClampNeg) (s ((u18.1 + (2 : Int32))).toNatClampNeg) u18.2).bind (fun q330 => (if aw_inb (u18.1 + (1 : Int32)) m = true then (if aw_inb (u18.1 + (2 : Int32)) m = true then ((FX6_item (s ((u18.1 + (1 : Int32))).toNatClampNeg) (s ((u18.1 + (2 : Int32))).toNatClampNeg) u18.2).bind (fun q334 => (if (lg_cmp q330 q334) = 0 then some (Sum.inl ((u18.1 + (7 : Int32)), u18.2)) else some (Sum.inr ((0 : Int32), u18.2))))) else none) else none))) else none) else none) else (if ((s (u18.1).toNatClampNeg) &&& (63 : Int32)) = (35 : Int32) then (if aw_inb (u18.1 + (1 : Int32)) m = true then (if aw_inb (u18.1 + (2 : Int32)) m = true then (if aw_inb (u18.1 + (3 : Int32)) m = true then (if aw_inb (u18.1 + (4 : Int32)) m = true then (if aw_inb (u18.1 + (5 : Int32)) m = true then ((FX5_copy (s ((u18.1 + (1 : Int32))).toNatClampNeg) (s ((u18.1 + (2 : Int32))).toNatClampNeg) (s ((u18.1 + (3 : Int32))).toNatClampNeg) (s ((u18.1 + (4 : Int32))).toNatClampNeg) (s ((u18.1 + (5 : Int32))).toNatClampNeg) u18.2).bind (fun q342 => (if aw_inb (u18.1 + (1 : Int32)) m = true then (if aw_inb (u18.1 + (2 : Int32)) m = true then (if aw_inb (u18.1 + (3 : Int32)) m = true then (if aw_inb (u18.1 + (4 : Int32)) m = true then (if aw_inb (u18.1 + (5 : Int32)) m = true then ((FX6_copy (s ((u18.1 + (1 : Int32))).toNatClampNeg) (s ((u18.1 + (2 : Int32))).toNatClampNeg) (s ((u18.1 + (3 : Int32))).toNatClampNeg) (s ((u18.1 + (4 : Int32))).toNatClampNeg) (s ((u18.1 + (5 : Int32))).toNatClampNeg) q342.2).bind (fun q349 => (if q342.1 = q349.1 then some (Sum.inl ((u18.1 + (7 : Int32)), q349.2)) else some (Sum.inr ((0 : Int32), q349.2))))) else none) else none) else none) else none) else none))) else none) else none) else none) else none) else none) else some (Sum.inl ((u18.1 + (7 : Int32)), u18.2)))))))))))))))))))))))))))))))))))))) else none))
def FL_law (n m : Nat) (s : Nat → Int32) (h : aw_H) : Option (Int32 × aw_H) :=
  aw_loop (BL_law_18 n m s) n ((0 : Int32), h)
set_option maxRecDepth 100000 in
set_option maxHeartbeats 8000000 in
theorem ctL_law (n m : Nat) (s : Nat → Int32) (h : aw_H) (y : Int32 × aw_H) (hF : FL_law n m s h = some y) {X : aw_X} (C : aw_C X RL cL_law 4 10 600000 7302250) (SC : aw_SC X m s) (KR : ∀ (pc : Nat) (ls : List Value), decode cL_law pc = .ok (.ireturn, 1) → AW X 4 pc ls [.int y.1] wL wR y.2 82 1378) : AW X 4 16 [.ref 1400, .ref 0, .ref 71, .retAddr 0] [] wL wR h 82 1378 := by
  have C : aw_C X RL cL_law 4 10 600000 7302250 := C
  unfold FL_law at hF
  refine aw_iconst C dL_law_16 li_0 ?_
  refine aw_istore_3 C dL_law_17 rfl rfl ?_
  refine aw_loop_rule (fun u18 : (Int32 × aw_H) => AW X 4 18 [.ref 1400, .ref 0, .ref 71, .int u18.1] [] wL wR u18.2 82 1378) (fun q => q = y) (fun u18 y18 hF hK => ?_) n ((0 : Int32), h) _ hF rfl
  unfold BL_law_18 at hF
  refine aw_iload_3 C dL_law_18 ?_
  refine aw_aload_0 C dL_law_19 ?_
  refine aw_slen SC C dL_law_20 ?_
  refine aw_bipush C dL_law_21 lb_7 ?_
  refine aw_isub C dL_law_23 ?_
  refine bw_icmp_gt (tgt := 1545) C dL_law_24 (by decide) hF (fun hF => ?_) (fun hF => ?_)
  · refine aw_iconst C dL_law_1545 li_1 ?_
    obtain rfl := Option.some.inj hF
    have hK : _ = y := hK
    subst hK
    exact KR _ _ dL_law_1546
  · refine aw_aload_0 C dL_law_27 ?_
    refine aw_iload_3 C dL_law_28 ?_
    obtain ⟨s1, hF⟩ := bw_side hF
    refine aw_sald SC C dL_law_29 (aw_ix s1) ?_
    refine aw_bipush C dL_law_30 lb_63 ?_
    refine aw_iand C dL_law_32 ?_
    rcases Decidable.em (((s (u18.1).toNatClampNeg) &&& (63 : Int32)) = (0 : Int32)) with c14 | c14
    · rw [if_pos c14] at hF
      refine aw_tabIn (off := 159) (tgt := 192) C dL_law_33 (by rw [c14]; decide) (by rw [c14]; decide) (by rw [c14]; rfl) (by decide) ?_
      refine aw_aload_1 C dL_law_192 ?_
      refine aw_aload_0 C dL_law_193 ?_
      refine aw_iload_3 C dL_law_194 ?_
      refine aw_iconst C dL_law_195 li_1 ?_
      refine aw_iadd C dL_law_196 ?_
      obtain ⟨s2, hF⟩ := bw_side hF
      refine aw_sald SC C dL_law_197 (aw_ix s2) ?_
      refine aw_aload_0 C dL_law_198 ?_
      refine aw_iload_3 C dL_law_199 ?_
      refine aw_iconst C dL_law_200 li_2 ?_
      refine aw_iadd C dL_law_201 ?_
      obtain ⟨s3, hF⟩ := bw_side hF
      refine aw_sald SC C dL_law_202 (aw_ix s3) ?_
      refine aw_aload_0 C dL_law_203 ?_
      refine aw_iload_3 C dL_law_204 ?_
      refine aw_iconst C dL_law_205 li_3 ?_
      refine aw_iadd C dL_law_206 ?_
      obtain ⟨s4, hF⟩ := bw_side hF
      refine aw_sald SC C dL_law_207 (aw_ix s4) ?_
      refine aw_aload_0 C dL_law_208 ?_
      refine aw_iload_3 C dL_law_209 ?_
      refine aw_iconst C dL_law_210 li_4 ?_
      refine aw_iadd C dL_law_211 ?_
      obtain ⟨s5, hF⟩ := bw_side hF
      refine aw_sald SC C dL_law_212 (aw_ix s5) ?_
      obtain ⟨q6, e7, hF⟩ := bw_bind hF
      refine cw_V4i C dL_law_213 kyX5_part lL_13 kiX5_part kvX5_part (aw_rv C rfl rfl) rfl rfl (ctX5_part n (s ((u18.1 + (1 : Int32))).toNatClampNeg) (s ((u18.1 + (2 : Int32))).toNatClampNeg) (s ((u18.1 + (3 : Int32))).toNatClampNeg) (s ((u18.1 + (4 : Int32))).toNatClampNeg) u18.2 q6 e7) rfl rfl ?_
      refine aw_aload_2 C dL_law_216 ?_
      refine aw_aload_0 C dL_law_217 ?_
      refine aw_iload_3 C dL_law_218 ?_
      refine aw_iconst C dL_law_219 li_1 ?_
      refine aw_iadd C dL_law_220 ?_
      obtain ⟨s8, hF⟩ := bw_side hF
      refine aw_sald SC C dL_law_221 (aw_ix s8) ?_
      refine aw_aload_0 C dL_law_222 ?_
      refine aw_iload_3 C dL_law_223 ?_
      refine aw_iconst C dL_law_224 li_2 ?_
      refine aw_iadd C dL_law_225 ?_
      obtain ⟨s9, hF⟩ := bw_side hF
      refine aw_sald SC C dL_law_226 (aw_ix s9) ?_
      refine aw_aload_0 C dL_law_227 ?_
      refine aw_iload_3 C dL_law_228 ?_
      refine aw_iconst C dL_law_229 li_3 ?_
      refine aw_iadd C dL_law_230 ?_
      obtain ⟨s10, hF⟩ := bw_side hF
      refine aw_sald SC C dL_law_231 (aw_ix s10) ?_
      refine aw_aload_0 C dL_law_232 ?_
      refine aw_iload_3 C dL_law_233 ?_
      refine aw_iconst C dL_law_234 li_4 ?_
      refine aw_iadd C dL_law_235 ?_
      obtain ⟨s11, hF⟩ := bw_side hF
      refine aw_sald SC C dL_law_236 (aw_ix s11) ?_
      obtain ⟨q12, e13, hF⟩ := bw_bind hF
      refine cw_V4i C dL_law_237 kyX6_part lL_17 kiX6_part kvX6_part (aw_rv C rfl rfl) rfl rfl (ctX6_part (s ((u18.1 + (1 : Int32))).toNatClampNeg) (s ((u18.1 + (2 : Int32))).toNatClampNeg) (s ((u18.1 + (3 : Int32))).toNatClampNeg) (s ((u18.1 + (4 : Int32))).toNatClampNeg) q6.2 q12 e13) rfl rfl ?_
      refine bw_icmp_eq (tgt := 1539) C dL_law_240 (by decide) hF (fun hF => ?_) (fun hF => ?_)
      · refine aw_iinc_3 C dL_law_1539 li_7 rfl rfl ?_
        refine aw_goto (tgt := 18) C dL_law_1542 (by decide) ?_
        cases hF
        exact hK
      · refine aw_iconst C dL_law_243 li_0 ?_
        obtain rfl := Option.some.inj hF
        have hK : _ = y := hK
        subst hK
        exact KR _ _ dL_law_244
    rw [if_neg c14] at hF
    rcases Decidable.em (((s (u18.1).toNatClampNeg) &&& (63 : Int32)) = (1 : Int32)) with c19 | c19
    · rw [if_pos c19] at hF
      refine aw_tabIn (off := 212) (tgt := 245) C dL_law_33 (by rw [c19]; decide) (by rw [c19]; decide) (by rw [c19]; rfl) (by decide) ?_
      refine aw_aload_1 C dL_law_245 ?_
      obtain ⟨q15, e16, hF⟩ := bw_bind hF
      refine cw_V0i C dL_law_246 kyX5_drop lL_18 kiX5_drop kvX5_drop (aw_rv C rfl rfl) rfl rfl (ctX5_drop u18.2 q15 e16) rfl rfl ?_
      refine aw_aload_2 C dL_law_249 ?_
      obtain ⟨q17, e18, hF⟩ := bw_bind hF
      refine cw_V0i C dL_law_250 kyX6_drop lL_22 kiX6_drop kvX6_drop (aw_rv C rfl rfl) rfl rfl (ctX6_drop q15.2 q17 e18) rfl rfl ?_
      refine bw_icmp_eq (tgt := 1539) C dL_law_253 (by decide) hF (fun hF => ?_) (fun hF => ?_)
      · refine aw_iinc_3 C dL_law_1539 li_7 rfl rfl ?_
        refine aw_goto (tgt := 18) C dL_law_1542 (by decide) ?_
        cases hF
        exact hK
      · refine aw_iconst C dL_law_256 li_0 ?_
        obtain rfl := Option.some.inj hF
        have hK : _ = y := hK
        subst hK
        exact KR _ _ dL_law_257
    rw [if_neg c19] at hF
    rcases Decidable.em (((s (u18.1).toNatClampNeg) &&& (63 : Int32)) = (2 : Int32)) with c30 | c30
    · rw [if_pos c30] at hF
      refine aw_tabIn (off := 225) (tgt := 258) C dL_law_33 (by rw [c30]; decide) (by rw [c30]; decide) (by rw [c30]; rfl) (by decide) ?_
      refine aw_aload_1 C dL_law_258 ?_
      refine aw_aload_0 C dL_law_259 ?_
      refine aw_iload_3 C dL_law_260 ?_
      refine aw_iconst C dL_law_261 li_1 ?_
      refine aw_iadd C dL_law_262 ?_
      obtain ⟨s20, hF⟩ := bw_side hF
      refine aw_sald SC C dL_law_263 (aw_ix s20) ?_
      refine aw_aload_0 C dL_law_264 ?_
      refine aw_iload_3 C dL_law_265 ?_
      refine aw_iconst C dL_law_266 li_2 ?_
      refine aw_iadd C dL_law_267 ?_
      obtain ⟨s21, hF⟩ := bw_side hF
      refine aw_sald SC C dL_law_268 (aw_ix s21) ?_
      refine aw_aload_0 C dL_law_269 ?_
      refine aw_iload_3 C dL_law_270 ?_
      refine aw_iconst C dL_law_271 li_3 ?_
      refine aw_iadd C dL_law_272 ?_
      obtain ⟨s22, hF⟩ := bw_side hF
      refine aw_sald SC C dL_law_273 (aw_ix s22) ?_
      obtain ⟨q23, e24, hF⟩ := bw_bind hF
      refine cw_V3i C dL_law_274 kyX5_gear lL_23 kiX5_gear kvX5_gear (aw_rv C rfl rfl) rfl rfl (ctX5_gear n (s ((u18.1 + (1 : Int32))).toNatClampNeg) (s ((u18.1 + (2 : Int32))).toNatClampNeg) (s ((u18.1 + (3 : Int32))).toNatClampNeg) u18.2 q23 e24) rfl rfl ?_
      refine aw_aload_2 C dL_law_277 ?_
      refine aw_aload_0 C dL_law_278 ?_
      refine aw_iload_3 C dL_law_279 ?_
      refine aw_iconst C dL_law_280 li_1 ?_
      refine aw_iadd C dL_law_281 ?_
      obtain ⟨s25, hF⟩ := bw_side hF
      refine aw_sald SC C dL_law_282 (aw_ix s25) ?_
      refine aw_aload_0 C dL_law_283 ?_
      refine aw_iload_3 C dL_law_284 ?_
      refine aw_iconst C dL_law_285 li_2 ?_
      refine aw_iadd C dL_law_286 ?_
      obtain ⟨s26, hF⟩ := bw_side hF
      refine aw_sald SC C dL_law_287 (aw_ix s26) ?_
      refine aw_aload_0 C dL_law_288 ?_
      refine aw_iload_3 C dL_law_289 ?_
      refine aw_iconst C dL_law_290 li_3 ?_
      refine aw_iadd C dL_law_291 ?_
      obtain ⟨s27, hF⟩ := bw_side hF
      refine aw_sald SC C dL_law_292 (aw_ix s27) ?_
      obtain ⟨q28, e29, hF⟩ := bw_bind hF
      refine cw_V3i C dL_law_293 kyX6_gear lL_27 kiX6_gear kvX6_gear (aw_rv C rfl rfl) rfl rfl (ctX6_gear (s ((u18.1 + (1 : Int32))).toNatClampNeg) (s ((u18.1 + (2 : Int32))).toNatClampNeg) (s ((u18.1 + (3 : Int32))).toNatClampNeg) q23.2 q28 e29) rfl rfl ?_
      refine bw_icmp_eq (tgt := 1539) C dL_law_296 (by decide) hF (fun hF => ?_) (fun hF => ?_)
      · refine aw_iinc_3 C dL_law_1539 li_7 rfl rfl ?_
        refine aw_goto (tgt := 18) C dL_law_1542 (by decide) ?_
        cases hF
        exact hK
      · refine aw_iconst C dL_law_299 li_0 ?_
        obtain rfl := Option.some.inj hF
        have hK : _ = y := hK
        subst hK
        exact KR _ _ dL_law_300
    rw [if_neg c30] at hF
    rcases Decidable.em (((s (u18.1).toNatClampNeg) &&& (63 : Int32)) = (3 : Int32)) with c37 | c37
    · rw [if_pos c37] at hF
      refine aw_tabIn (off := 268) (tgt := 301) C dL_law_33 (by rw [c37]; decide) (by rw [c37]; decide) (by rw [c37]; rfl) (by decide) ?_
      refine aw_aload_1 C dL_law_301 ?_
      refine aw_aload_0 C dL_law_302 ?_
      refine aw_iload_3 C dL_law_303 ?_
      refine aw_iconst C dL_law_304 li_1 ?_
      refine aw_iadd C dL_law_305 ?_
      obtain ⟨s31, hF⟩ := bw_side hF
      refine aw_sald SC C dL_law_306 (aw_ix s31) ?_
      obtain ⟨q32, e33, hF⟩ := bw_bind hF
      refine cw_V1i C dL_law_307 kyX5_ungear lL_28 kiX5_ungear kvX5_ungear (aw_rv C rfl rfl) rfl rfl (ctX5_ungear n (s ((u18.1 + (1 : Int32))).toNatClampNeg) u18.2 q32 e33) rfl rfl ?_
      refine aw_aload_2 C dL_law_310 ?_
      refine aw_aload_0 C dL_law_311 ?_
      refine aw_iload_3 C dL_law_312 ?_
      refine aw_iconst C dL_law_313 li_1 ?_
      refine aw_iadd C dL_law_314 ?_
      obtain ⟨s34, hF⟩ := bw_side hF
      refine aw_sald SC C dL_law_315 (aw_ix s34) ?_
      obtain ⟨q35, e36, hF⟩ := bw_bind hF
      refine cw_V1i C dL_law_316 kyX6_ungear lL_32 kiX6_ungear kvX6_ungear (aw_rv C rfl rfl) rfl rfl (ctX6_ungear (s ((u18.1 + (1 : Int32))).toNatClampNeg) q32.2 q35 e36) rfl rfl ?_
      refine bw_icmp_eq (tgt := 1539) C dL_law_319 (by decide) hF (fun hF => ?_) (fun hF => ?_)
      · refine aw_iinc_3 C dL_law_1539 li_7 rfl rfl ?_
        refine aw_goto (tgt := 18) C dL_law_1542 (by decide) ?_
        cases hF
        exact hK
      · refine aw_iconst C dL_law_322 li_0 ?_
        obtain rfl := Option.some.inj hF
        have hK : _ = y := hK
        subst hK
        exact KR _ _ dL_law_323
    rw [if_neg c37] at hF
    rcases Decidable.em (((s (u18.1).toNatClampNeg) &&& (63 : Int32)) = (4 : Int32)) with c44 | c44
    · rw [if_pos c44] at hF
      refine aw_tabIn (off := 291) (tgt := 324) C dL_law_33 (by rw [c44]; decide) (by rw [c44]; decide) (by rw [c44]; rfl) (by decide) ?_
      refine aw_aload_1 C dL_law_324 ?_
      refine aw_aload_0 C dL_law_325 ?_
      refine aw_iload_3 C dL_law_326 ?_
      refine aw_iconst C dL_law_327 li_1 ?_
      refine aw_iadd C dL_law_328 ?_
      obtain ⟨s38, hF⟩ := bw_side hF
      refine aw_sald SC C dL_law_329 (aw_ix s38) ?_
      obtain ⟨q39, e40, hF⟩ := bw_bind hF
      refine cw_V1i C dL_law_330 kyX5_shaft lL_33 kiX5_shaft kvX5_shaft (aw_rv C rfl rfl) rfl rfl (ctX5_shaft n (s ((u18.1 + (1 : Int32))).toNatClampNeg) u18.2 q39 e40) rfl rfl ?_
      refine aw_aload_2 C dL_law_333 ?_
      refine aw_aload_0 C dL_law_334 ?_
      refine aw_iload_3 C dL_law_335 ?_
      refine aw_iconst C dL_law_336 li_1 ?_
      refine aw_iadd C dL_law_337 ?_
      obtain ⟨s41, hF⟩ := bw_side hF
      refine aw_sald SC C dL_law_338 (aw_ix s41) ?_
      obtain ⟨q42, e43, hF⟩ := bw_bind hF
      refine cw_V1i C dL_law_339 kyX6_shaft lL_36 kiX6_shaft kvX6_shaft (aw_rv C rfl rfl) rfl rfl (ctX6_shaft (s ((u18.1 + (1 : Int32))).toNatClampNeg) q39.2 q42 e43) rfl rfl ?_
      refine bw_icmp_eq (tgt := 1539) C dL_law_342 (by decide) hF (fun hF => ?_) (fun hF => ?_)
      · refine aw_iinc_3 C dL_law_1539 li_7 rfl rfl ?_
        refine aw_goto (tgt := 18) C dL_law_1542 (by decide) ?_
        cases hF
        exact hK
      · refine aw_iconst C dL_law_345 li_0 ?_
        obtain rfl := Option.some.inj hF
        have hK : _ = y := hK
        subst hK
        exact KR _ _ dL_law_346
    rw [if_neg c44] at hF
    rcases Decidable.em (((s (u18.1).toNatClampNeg) &&& (63 : Int32)) = (5 : Int32)) with c55 | c55
    · rw [if_pos c55] at hF
      refine aw_tabIn (off := 314) (tgt := 347) C dL_law_33 (by rw [c55]; decide) (by rw [c55]; decide) (by rw [c55]; rfl) (by decide) ?_
      refine aw_aload_1 C dL_law_347 ?_
      refine aw_aload_0 C dL_law_348 ?_
      refine aw_iload_3 C dL_law_349 ?_
      refine aw_iconst C dL_law_350 li_1 ?_
      refine aw_iadd C dL_law_351 ?_
      obtain ⟨s45, hF⟩ := bw_side hF
      refine aw_sald SC C dL_law_352 (aw_ix s45) ?_
      refine aw_aload_0 C dL_law_353 ?_
      refine aw_iload_3 C dL_law_354 ?_
      refine aw_iconst C dL_law_355 li_2 ?_
      refine aw_iadd C dL_law_356 ?_
      obtain ⟨s46, hF⟩ := bw_side hF
      refine aw_sald SC C dL_law_357 (aw_ix s46) ?_
      refine aw_aload_0 C dL_law_358 ?_
      refine aw_iload_3 C dL_law_359 ?_
      refine aw_iconst C dL_law_360 li_3 ?_
      refine aw_iadd C dL_law_361 ?_
      obtain ⟨s47, hF⟩ := bw_side hF
      refine aw_sald SC C dL_law_362 (aw_ix s47) ?_
      obtain ⟨q48, e49, hF⟩ := bw_bind hF
      refine cw_V3i C dL_law_363 kyX5_set lL_37 kiX5_set kvX5_set (aw_rv C rfl rfl) rfl rfl (ctX5_set (s ((u18.1 + (1 : Int32))).toNatClampNeg) (s ((u18.1 + (2 : Int32))).toNatClampNeg) (s ((u18.1 + (3 : Int32))).toNatClampNeg) u18.2 q48 e49) rfl rfl ?_
      refine aw_aload_2 C dL_law_366 ?_
      refine aw_aload_0 C dL_law_367 ?_
      refine aw_iload_3 C dL_law_368 ?_
      refine aw_iconst C dL_law_369 li_1 ?_
      refine aw_iadd C dL_law_370 ?_
      obtain ⟨s50, hF⟩ := bw_side hF
      refine aw_sald SC C dL_law_371 (aw_ix s50) ?_
      refine aw_aload_0 C dL_law_372 ?_
      refine aw_iload_3 C dL_law_373 ?_
      refine aw_iconst C dL_law_374 li_2 ?_
      refine aw_iadd C dL_law_375 ?_
      obtain ⟨s51, hF⟩ := bw_side hF
      refine aw_sald SC C dL_law_376 (aw_ix s51) ?_
      refine aw_aload_0 C dL_law_377 ?_
      refine aw_iload_3 C dL_law_378 ?_
      refine aw_iconst C dL_law_379 li_3 ?_
      refine aw_iadd C dL_law_380 ?_
      obtain ⟨s52, hF⟩ := bw_side hF
      refine aw_sald SC C dL_law_381 (aw_ix s52) ?_
      obtain ⟨q53, e54, hF⟩ := bw_bind hF
      refine cw_V3i C dL_law_382 kyX6_set lL_40 kiX6_set kvX6_set (aw_rv C rfl rfl) rfl rfl (ctX6_set (s ((u18.1 + (1 : Int32))).toNatClampNeg) (s ((u18.1 + (2 : Int32))).toNatClampNeg) (s ((u18.1 + (3 : Int32))).toNatClampNeg) q48.2 q53 e54) rfl rfl ?_
      refine bw_icmp_eq (tgt := 1539) C dL_law_385 (by decide) hF (fun hF => ?_) (fun hF => ?_)
      · refine aw_iinc_3 C dL_law_1539 li_7 rfl rfl ?_
        refine aw_goto (tgt := 18) C dL_law_1542 (by decide) ?_
        cases hF
        exact hK
      · refine aw_iconst C dL_law_388 li_0 ?_
        obtain rfl := Option.some.inj hF
        have hK : _ = y := hK
        subst hK
        exact KR _ _ dL_law_389
    rw [if_neg c55] at hF
    rcases Decidable.em (((s (u18.1).toNatClampNeg) &&& (63 : Int32)) = (6 : Int32)) with c64 | c64
    · rw [if_pos c64] at hF
      refine aw_tabIn (off := 357) (tgt := 390) C dL_law_33 (by rw [c64]; decide) (by rw [c64]; decide) (by rw [c64]; rfl) (by decide) ?_
      refine aw_aload_1 C dL_law_390 ?_
      refine aw_aload_0 C dL_law_391 ?_
      refine aw_iload_3 C dL_law_392 ?_
      refine aw_iconst C dL_law_393 li_1 ?_
      refine aw_iadd C dL_law_394 ?_
      obtain ⟨s56, hF⟩ := bw_side hF
      refine aw_sald SC C dL_law_395 (aw_ix s56) ?_
      refine aw_aload_0 C dL_law_396 ?_
      refine aw_iload_3 C dL_law_397 ?_
      refine aw_iconst C dL_law_398 li_2 ?_
      refine aw_iadd C dL_law_399 ?_
      obtain ⟨s57, hF⟩ := bw_side hF
      refine aw_sald SC C dL_law_400 (aw_ix s57) ?_
      obtain ⟨q58, e59, hF⟩ := bw_bind hF
      refine cw_V2i C dL_law_401 kyX5_kind lL_41 kiX5_kind kvX5_kind (aw_rv C rfl rfl) rfl rfl (ctX5_kind (s ((u18.1 + (1 : Int32))).toNatClampNeg) (s ((u18.1 + (2 : Int32))).toNatClampNeg) u18.2 q58 e59) rfl rfl ?_
      refine aw_aload_2 C dL_law_404 ?_
      refine aw_aload_0 C dL_law_405 ?_
      refine aw_iload_3 C dL_law_406 ?_
      refine aw_iconst C dL_law_407 li_1 ?_
      refine aw_iadd C dL_law_408 ?_
      obtain ⟨s60, hF⟩ := bw_side hF
      refine aw_sald SC C dL_law_409 (aw_ix s60) ?_
      refine aw_aload_0 C dL_law_410 ?_
      refine aw_iload_3 C dL_law_411 ?_
      refine aw_iconst C dL_law_412 li_2 ?_
      refine aw_iadd C dL_law_413 ?_
      obtain ⟨s61, hF⟩ := bw_side hF
      refine aw_sald SC C dL_law_414 (aw_ix s61) ?_
      obtain ⟨q62, e63, hF⟩ := bw_bind hF
      refine cw_V2i C dL_law_415 kyX6_kind lL_45 kiX6_kind kvX6_kind (aw_rv C rfl rfl) rfl rfl (ctX6_kind (s ((u18.1 + (1 : Int32))).toNatClampNeg) (s ((u18.1 + (2 : Int32))).toNatClampNeg) q58.2 q62 e63) rfl rfl ?_
      refine bw_icmp_eq (tgt := 1539) C dL_law_418 (by decide) hF (fun hF => ?_) (fun hF => ?_)
      · refine aw_iinc_3 C dL_law_1539 li_7 rfl rfl ?_
        refine aw_goto (tgt := 18) C dL_law_1542 (by decide) ?_
        cases hF
        exact hK
      · refine aw_iconst C dL_law_421 li_0 ?_
        obtain rfl := Option.some.inj hF
        have hK : _ = y := hK
        subst hK
        exact KR _ _ dL_law_422
    rw [if_neg c64] at hF
    rcases Decidable.em (((s (u18.1).toNatClampNeg) &&& (63 : Int32)) = (7 : Int32)) with c73 | c73
    · rw [if_pos c73] at hF
      refine aw_tabIn (off := 390) (tgt := 423) C dL_law_33 (by rw [c73]; decide) (by rw [c73]; decide) (by rw [c73]; rfl) (by decide) ?_
      refine aw_aload_1 C dL_law_423 ?_
      refine aw_aload_0 C dL_law_424 ?_
      refine aw_iload_3 C dL_law_425 ?_
      refine aw_iconst C dL_law_426 li_1 ?_
      refine aw_iadd C dL_law_427 ?_
      obtain ⟨s65, hF⟩ := bw_side hF
      refine aw_sald SC C dL_law_428 (aw_ix s65) ?_
      refine aw_aload_0 C dL_law_429 ?_
      refine aw_iload_3 C dL_law_430 ?_
      refine aw_iconst C dL_law_431 li_2 ?_
      refine aw_iadd C dL_law_432 ?_
      obtain ⟨s66, hF⟩ := bw_side hF
      refine aw_sald SC C dL_law_433 (aw_ix s66) ?_
      obtain ⟨q67, e68, hF⟩ := bw_bind hF
      refine cw_V2i C dL_law_434 kyX5_of lL_46 kiX5_of kvX5_of (aw_rv C rfl rfl) rfl rfl (ctX5_of (s ((u18.1 + (1 : Int32))).toNatClampNeg) (s ((u18.1 + (2 : Int32))).toNatClampNeg) u18.2 q67 e68) rfl rfl ?_
      refine aw_aload_2 C dL_law_437 ?_
      refine aw_aload_0 C dL_law_438 ?_
      refine aw_iload_3 C dL_law_439 ?_
      refine aw_iconst C dL_law_440 li_1 ?_
      refine aw_iadd C dL_law_441 ?_
      obtain ⟨s69, hF⟩ := bw_side hF
      refine aw_sald SC C dL_law_442 (aw_ix s69) ?_
      refine aw_aload_0 C dL_law_443 ?_
      refine aw_iload_3 C dL_law_444 ?_
      refine aw_iconst C dL_law_445 li_2 ?_
      refine aw_iadd C dL_law_446 ?_
      obtain ⟨s70, hF⟩ := bw_side hF
      refine aw_sald SC C dL_law_447 (aw_ix s70) ?_
      obtain ⟨q71, e72, hF⟩ := bw_bind hF
      refine cw_V2i C dL_law_448 kyX6_of lL_49 kiX6_of kvX6_of (aw_rv C rfl rfl) rfl rfl (ctX6_of (s ((u18.1 + (1 : Int32))).toNatClampNeg) (s ((u18.1 + (2 : Int32))).toNatClampNeg) u18.2 q71 e72) rfl rfl ?_
      refine bw_icmp_eq (tgt := 1539) C dL_law_451 (by decide) hF (fun hF => ?_) (fun hF => ?_)
      · refine aw_iinc_3 C dL_law_1539 li_7 rfl rfl ?_
        refine aw_goto (tgt := 18) C dL_law_1542 (by decide) ?_
        cases hF
        exact hK
      · refine aw_iconst C dL_law_454 li_0 ?_
        obtain rfl := Option.some.inj hF
        have hK : _ = y := hK
        subst hK
        exact KR _ _ dL_law_455
    rw [if_neg c73] at hF
    rcases Decidable.em (((s (u18.1).toNatClampNeg) &&& (63 : Int32)) = (8 : Int32)) with c82 | c82
    · rw [if_pos c82] at hF
      refine aw_tabIn (off := 423) (tgt := 456) C dL_law_33 (by rw [c82]; decide) (by rw [c82]; decide) (by rw [c82]; rfl) (by decide) ?_
      refine aw_aload_1 C dL_law_456 ?_
      refine aw_aload_0 C dL_law_457 ?_
      refine aw_iload_3 C dL_law_458 ?_
      refine aw_iconst C dL_law_459 li_1 ?_
      refine aw_iadd C dL_law_460 ?_
      obtain ⟨s74, hF⟩ := bw_side hF
      refine aw_sald SC C dL_law_461 (aw_ix s74) ?_
      refine aw_aload_0 C dL_law_462 ?_
      refine aw_iload_3 C dL_law_463 ?_
      refine aw_iconst C dL_law_464 li_2 ?_
      refine aw_iadd C dL_law_465 ?_
      obtain ⟨s75, hF⟩ := bw_side hF
      refine aw_sald SC C dL_law_466 (aw_ix s75) ?_
      obtain ⟨q76, e77, hF⟩ := bw_bind hF
      refine cw_V2i C dL_law_467 kyX5_taken lL_50 kiX5_taken kvX5_taken (aw_rv C rfl rfl) rfl rfl (ctX5_taken (s ((u18.1 + (1 : Int32))).toNatClampNeg) (s ((u18.1 + (2 : Int32))).toNatClampNeg) u18.2 q76 e77) rfl rfl ?_
      refine aw_aload_2 C dL_law_470 ?_
      refine aw_aload_0 C dL_law_471 ?_
      refine aw_iload_3 C dL_law_472 ?_
      refine aw_iconst C dL_law_473 li_1 ?_
      refine aw_iadd C dL_law_474 ?_
      obtain ⟨s78, hF⟩ := bw_side hF
      refine aw_sald SC C dL_law_475 (aw_ix s78) ?_
      refine aw_aload_0 C dL_law_476 ?_
      refine aw_iload_3 C dL_law_477 ?_
      refine aw_iconst C dL_law_478 li_2 ?_
      refine aw_iadd C dL_law_479 ?_
      obtain ⟨s79, hF⟩ := bw_side hF
      refine aw_sald SC C dL_law_480 (aw_ix s79) ?_
      obtain ⟨q80, e81, hF⟩ := bw_bind hF
      refine cw_V2i C dL_law_481 kyX6_taken lL_53 kiX6_taken kvX6_taken (aw_rv C rfl rfl) rfl rfl (ctX6_taken n (s ((u18.1 + (1 : Int32))).toNatClampNeg) (s ((u18.1 + (2 : Int32))).toNatClampNeg) u18.2 q80 e81) rfl rfl ?_
      refine bw_icmp_eq (tgt := 1539) C dL_law_484 (by decide) hF (fun hF => ?_) (fun hF => ?_)
      · refine aw_iinc_3 C dL_law_1539 li_7 rfl rfl ?_
        refine aw_goto (tgt := 18) C dL_law_1542 (by decide) ?_
        cases hF
        exact hK
      · refine aw_iconst C dL_law_487 li_0 ?_
        obtain rfl := Option.some.inj hF
        have hK : _ = y := hK
        subst hK
        exact KR _ _ dL_law_488
    rw [if_neg c82] at hF
    rcases Decidable.em (((s (u18.1).toNatClampNeg) &&& (63 : Int32)) = (9 : Int32)) with c91 | c91
    · rw [if_pos c91] at hF
      refine aw_tabIn (off := 456) (tgt := 489) C dL_law_33 (by rw [c91]; decide) (by rw [c91]; decide) (by rw [c91]; rfl) (by decide) ?_
      refine aw_aload_1 C dL_law_489 ?_
      refine aw_aload_0 C dL_law_490 ?_
      refine aw_iload_3 C dL_law_491 ?_
      refine aw_iconst C dL_law_492 li_1 ?_
      refine aw_iadd C dL_law_493 ?_
      obtain ⟨s83, hF⟩ := bw_side hF
      refine aw_sald SC C dL_law_494 (aw_ix s83) ?_
      refine aw_aload_0 C dL_law_495 ?_
      refine aw_iload_3 C dL_law_496 ?_
      refine aw_iconst C dL_law_497 li_2 ?_
      refine aw_iadd C dL_law_498 ?_
      obtain ⟨s84, hF⟩ := bw_side hF
      refine aw_sald SC C dL_law_499 (aw_ix s84) ?_
      obtain ⟨q85, e86, hF⟩ := bw_bind hF
      refine cw_V2i C dL_law_500 kyX5_jam lL_54 kiX5_jam kvX5_jam (aw_rv C rfl rfl) rfl rfl (ctX5_jam n (s ((u18.1 + (1 : Int32))).toNatClampNeg) (s ((u18.1 + (2 : Int32))).toNatClampNeg) u18.2 q85 e86) rfl rfl ?_
      refine aw_aload_2 C dL_law_503 ?_
      refine aw_aload_0 C dL_law_504 ?_
      refine aw_iload_3 C dL_law_505 ?_
      refine aw_iconst C dL_law_506 li_1 ?_
      refine aw_iadd C dL_law_507 ?_
      obtain ⟨s87, hF⟩ := bw_side hF
      refine aw_sald SC C dL_law_508 (aw_ix s87) ?_
      refine aw_aload_0 C dL_law_509 ?_
      refine aw_iload_3 C dL_law_510 ?_
      refine aw_iconst C dL_law_511 li_2 ?_
      refine aw_iadd C dL_law_512 ?_
      obtain ⟨s88, hF⟩ := bw_side hF
      refine aw_sald SC C dL_law_513 (aw_ix s88) ?_
      obtain ⟨q89, e90, hF⟩ := bw_bind hF
      refine cw_V2i C dL_law_514 kyX6_jam lL_57 kiX6_jam kvX6_jam (aw_rv C rfl rfl) rfl rfl (ctX6_jam n (s ((u18.1 + (1 : Int32))).toNatClampNeg) (s ((u18.1 + (2 : Int32))).toNatClampNeg) u18.2 q89 e90) rfl rfl ?_
      refine bw_icmp_eq (tgt := 1539) C dL_law_517 (by decide) hF (fun hF => ?_) (fun hF => ?_)
      · refine aw_iinc_3 C dL_law_1539 li_7 rfl rfl ?_
        refine aw_goto (tgt := 18) C dL_law_1542 (by decide) ?_
        cases hF
        exact hK
      · refine aw_iconst C dL_law_520 li_0 ?_
        obtain rfl := Option.some.inj hF
        have hK : _ = y := hK
        subst hK
        exact KR _ _ dL_law_521
    rw [if_neg c91] at hF
    rcases Decidable.em (((s (u18.1).toNatClampNeg) &&& (63 : Int32)) = (10 : Int32)) with c100 | c100
    · rw [if_pos c100] at hF
      refine aw_tabIn (off := 489) (tgt := 522) C dL_law_33 (by rw [c100]; decide) (by rw [c100]; decide) (by rw [c100]; rfl) (by decide) ?_
      refine aw_aload_1 C dL_law_522 ?_
      refine aw_aload_0 C dL_law_523 ?_
      refine aw_iload_3 C dL_law_524 ?_
      refine aw_iconst C dL_law_525 li_1 ?_
      refine aw_iadd C dL_law_526 ?_
      obtain ⟨s92, hF⟩ := bw_side hF
      refine aw_sald SC C dL_law_527 (aw_ix s92) ?_
      refine aw_aload_0 C dL_law_528 ?_
      refine aw_iload_3 C dL_law_529 ?_
      refine aw_iconst C dL_law_530 li_2 ?_
      refine aw_iadd C dL_law_531 ?_
      obtain ⟨s93, hF⟩ := bw_side hF
      refine aw_sald SC C dL_law_532 (aw_ix s93) ?_
      obtain ⟨q94, e95, hF⟩ := bw_bind hF
      refine cw_V2l C dL_law_533 kyX5_speed lL_58 kiX5_speed kvX5_speed (aw_rv C rfl rfl) rfl rfl (ctX5_speed (s ((u18.1 + (1 : Int32))).toNatClampNeg) (s ((u18.1 + (2 : Int32))).toNatClampNeg) u18.2 q94 e95) rfl rfl ?_
      refine aw_aload_2 C dL_law_536 ?_
      refine aw_aload_0 C dL_law_537 ?_
      refine aw_iload_3 C dL_law_538 ?_
      refine aw_iconst C dL_law_539 li_1 ?_
      refine aw_iadd C dL_law_540 ?_
      obtain ⟨s96, hF⟩ := bw_side hF
      refine aw_sald SC C dL_law_541 (aw_ix s96) ?_
      refine aw_aload_0 C dL_law_542 ?_
      refine aw_iload_3 C dL_law_543 ?_
      refine aw_iconst C dL_law_544 li_2 ?_
      refine aw_iadd C dL_law_545 ?_
      obtain ⟨s97, hF⟩ := bw_side hF
      refine aw_sald SC C dL_law_546 (aw_ix s97) ?_
      obtain ⟨q98, e99, hF⟩ := bw_bind hF
      refine cw_V2l C dL_law_547 kyX6_speed lL_62 kiX6_speed kvX6_speed (aw_rv C rfl rfl) rfl rfl (ctX6_speed n (s ((u18.1 + (1 : Int32))).toNatClampNeg) (s ((u18.1 + (2 : Int32))).toNatClampNeg) u18.2 q98 e99) rfl rfl ?_
      refine aw_lcmp C dL_law_550 ?_
      refine bw_if_eq (tgt := 1539) C dL_law_551 (by decide) hF (fun hF => ?_) (fun hF => ?_)
      · refine aw_iinc_3 C dL_law_1539 li_7 rfl rfl ?_
        refine aw_goto (tgt := 18) C dL_law_1542 (by decide) ?_
        cases hF
        exact hK
      · refine aw_iconst C dL_law_554 li_0 ?_
        obtain rfl := Option.some.inj hF
        have hK : _ = y := hK
        subst hK
        exact KR _ _ dL_law_555
    rw [if_neg c100] at hF
    rcases Decidable.em (((s (u18.1).toNatClampNeg) &&& (63 : Int32)) = (11 : Int32)) with c107 | c107
    · rw [if_pos c107] at hF
      refine aw_tabIn (off := 523) (tgt := 556) C dL_law_33 (by rw [c107]; decide) (by rw [c107]; decide) (by rw [c107]; rfl) (by decide) ?_
      refine aw_aload_1 C dL_law_556 ?_
      refine aw_aload_0 C dL_law_557 ?_
      refine aw_iload_3 C dL_law_558 ?_
      refine aw_iconst C dL_law_559 li_1 ?_
      refine aw_iadd C dL_law_560 ?_
      obtain ⟨s101, hF⟩ := bw_side hF
      refine aw_sald SC C dL_law_561 (aw_ix s101) ?_
      obtain ⟨q102, e103, hF⟩ := bw_bind hF
      refine cw_V1i C dL_law_562 kyX5_turn lL_63 kiX5_turn kvX5_turn (aw_rv C rfl rfl) rfl rfl (ctX5_turn (s ((u18.1 + (1 : Int32))).toNatClampNeg) u18.2 q102 e103) rfl rfl ?_
      refine aw_aload_2 C dL_law_565 ?_
      refine aw_aload_0 C dL_law_566 ?_
      refine aw_iload_3 C dL_law_567 ?_
      refine aw_iconst C dL_law_568 li_1 ?_
      refine aw_iadd C dL_law_569 ?_
      obtain ⟨s104, hF⟩ := bw_side hF
      refine aw_sald SC C dL_law_570 (aw_ix s104) ?_
      obtain ⟨q105, e106, hF⟩ := bw_bind hF
      refine cw_V1i C dL_law_571 kyX6_turn lL_66 kiX6_turn kvX6_turn (aw_rv C rfl rfl) rfl rfl (ctX6_turn (s ((u18.1 + (1 : Int32))).toNatClampNeg) q102.2 q105 e106) rfl rfl ?_
      refine bw_icmp_eq (tgt := 1539) C dL_law_574 (by decide) hF (fun hF => ?_) (fun hF => ?_)
      · refine aw_iinc_3 C dL_law_1539 li_7 rfl rfl ?_
        refine aw_goto (tgt := 18) C dL_law_1542 (by decide) ?_
        cases hF
        exact hK
      · refine aw_iconst C dL_law_577 li_0 ?_
        obtain rfl := Option.some.inj hF
        have hK : _ = y := hK
        subst hK
        exact KR _ _ dL_law_578
    rw [if_neg c107] at hF
    rcases Decidable.em (((s (u18.1).toNatClampNeg) &&& (63 : Int32)) = (12 : Int32)) with c112 | c112
    · rw [if_pos c112] at hF
      refine aw_tabIn (off := 546) (tgt := 579) C dL_law_33 (by rw [c112]; decide) (by rw [c112]; decide) (by rw [c112]; rfl) (by decide) ?_
      refine aw_aload_1 C dL_law_579 ?_
      obtain ⟨q108, e109, hF⟩ := bw_bind hF
      refine cw_V0l C dL_law_580 kyX5_height lL_67 kiX5_height kvX5_height (aw_rv C rfl rfl) rfl rfl (ctX5_height n u18.2 q108 e109) rfl rfl ?_
      refine aw_aload_2 C dL_law_583 ?_
      obtain ⟨q110, e111, hF⟩ := bw_bind hF
      refine cw_V0l C dL_law_584 kyX6_height lL_71 kiX6_height kvX6_height (aw_rv C rfl rfl) rfl rfl (ctX6_height n u18.2 q110 e111) rfl rfl ?_
      refine aw_lcmp C dL_law_587 ?_
      refine bw_if_eq (tgt := 1539) C dL_law_588 (by decide) hF (fun hF => ?_) (fun hF => ?_)
      · refine aw_iinc_3 C dL_law_1539 li_7 rfl rfl ?_
        refine aw_goto (tgt := 18) C dL_law_1542 (by decide) ?_
        cases hF
        exact hK
      · refine aw_iconst C dL_law_591 li_0 ?_
        obtain rfl := Option.some.inj hF
        have hK : _ = y := hK
        subst hK
        exact KR _ _ dL_law_592
    rw [if_neg c112] at hF
    rcases Decidable.em (((s (u18.1).toNatClampNeg) &&& (63 : Int32)) = (13 : Int32)) with c119 | c119
    · rw [if_pos c119] at hF
      refine aw_tabIn (off := 560) (tgt := 593) C dL_law_33 (by rw [c119]; decide) (by rw [c119]; decide) (by rw [c119]; rfl) (by decide) ?_
      refine aw_aload_1 C dL_law_593 ?_
      refine aw_aload_0 C dL_law_594 ?_
      refine aw_iload_3 C dL_law_595 ?_
      refine aw_iconst C dL_law_596 li_1 ?_
      refine aw_iadd C dL_law_597 ?_
      obtain ⟨s113, hF⟩ := bw_side hF
      refine aw_sald SC C dL_law_598 (aw_ix s113) ?_
      obtain ⟨q114, e115, hF⟩ := bw_bind hF
      refine cw_V1l C dL_law_599 kyX5_heightAt lL_72 kiX5_heightAt kvX5_heightAt (aw_rv C rfl rfl) rfl rfl (ctX5_heightAt n (s ((u18.1 + (1 : Int32))).toNatClampNeg) u18.2 q114 e115) rfl rfl ?_
      refine aw_aload_2 C dL_law_602 ?_
      refine aw_aload_0 C dL_law_603 ?_
      refine aw_iload_3 C dL_law_604 ?_
      refine aw_iconst C dL_law_605 li_1 ?_
      refine aw_iadd C dL_law_606 ?_
      obtain ⟨s116, hF⟩ := bw_side hF
      refine aw_sald SC C dL_law_607 (aw_ix s116) ?_
      obtain ⟨q117, e118, hF⟩ := bw_bind hF
      refine cw_V1l C dL_law_608 kyX6_heightAt lL_76 kiX6_heightAt kvX6_heightAt (aw_rv C rfl rfl) rfl rfl (ctX6_heightAt n (s ((u18.1 + (1 : Int32))).toNatClampNeg) u18.2 q117 e118) rfl rfl ?_
      refine aw_lcmp C dL_law_611 ?_
      refine bw_if_eq (tgt := 1539) C dL_law_612 (by decide) hF (fun hF => ?_) (fun hF => ?_)
      · refine aw_iinc_3 C dL_law_1539 li_7 rfl rfl ?_
        refine aw_goto (tgt := 18) C dL_law_1542 (by decide) ?_
        cases hF
        exact hK
      · refine aw_iconst C dL_law_615 li_0 ?_
        obtain rfl := Option.some.inj hF
        have hK : _ = y := hK
        subst hK
        exact KR _ _ dL_law_616
    rw [if_neg c119] at hF
    rcases Decidable.em (((s (u18.1).toNatClampNeg) &&& (63 : Int32)) = (14 : Int32)) with c128 | c128
    · rw [if_pos c128] at hF
      refine aw_tabIn (off := 584) (tgt := 617) C dL_law_33 (by rw [c128]; decide) (by rw [c128]; decide) (by rw [c128]; rfl) (by decide) ?_
      refine aw_aload_1 C dL_law_617 ?_
      refine aw_aload_0 C dL_law_618 ?_
      refine aw_iload_3 C dL_law_619 ?_
      refine aw_iconst C dL_law_620 li_1 ?_
      refine aw_iadd C dL_law_621 ?_
      obtain ⟨s120, hF⟩ := bw_side hF
      refine aw_sald SC C dL_law_622 (aw_ix s120) ?_
      refine aw_aload_0 C dL_law_623 ?_
      refine aw_iload_3 C dL_law_624 ?_
      refine aw_iconst C dL_law_625 li_2 ?_
      refine aw_iadd C dL_law_626 ?_
      obtain ⟨s121, hF⟩ := bw_side hF
      refine aw_sald SC C dL_law_627 (aw_ix s121) ?_
      obtain ⟨q122, e123, hF⟩ := bw_bind hF
      refine cw_V2l C dL_law_628 kyX5_heightOf lL_77 kiX5_heightOf kvX5_heightOf (aw_rv C rfl rfl) rfl rfl (ctX5_heightOf (s ((u18.1 + (1 : Int32))).toNatClampNeg) (s ((u18.1 + (2 : Int32))).toNatClampNeg) u18.2 q122 e123) rfl rfl ?_
      refine aw_aload_2 C dL_law_631 ?_
      refine aw_aload_0 C dL_law_632 ?_
      refine aw_iload_3 C dL_law_633 ?_
      refine aw_iconst C dL_law_634 li_1 ?_
      refine aw_iadd C dL_law_635 ?_
      obtain ⟨s124, hF⟩ := bw_side hF
      refine aw_sald SC C dL_law_636 (aw_ix s124) ?_
      refine aw_aload_0 C dL_law_637 ?_
      refine aw_iload_3 C dL_law_638 ?_
      refine aw_iconst C dL_law_639 li_2 ?_
      refine aw_iadd C dL_law_640 ?_
      obtain ⟨s125, hF⟩ := bw_side hF
      refine aw_sald SC C dL_law_641 (aw_ix s125) ?_
      obtain ⟨q126, e127, hF⟩ := bw_bind hF
      refine cw_V2l C dL_law_642 kyX6_heightOf lL_80 kiX6_heightOf kvX6_heightOf (aw_rv C rfl rfl) rfl rfl (ctX6_heightOf n (s ((u18.1 + (1 : Int32))).toNatClampNeg) (s ((u18.1 + (2 : Int32))).toNatClampNeg) u18.2 q126 e127) rfl rfl ?_
      refine aw_lcmp C dL_law_645 ?_
      refine bw_if_eq (tgt := 1539) C dL_law_646 (by decide) hF (fun hF => ?_) (fun hF => ?_)
      · refine aw_iinc_3 C dL_law_1539 li_7 rfl rfl ?_
        refine aw_goto (tgt := 18) C dL_law_1542 (by decide) ?_
        cases hF
        exact hK
      · refine aw_iconst C dL_law_649 li_0 ?_
        obtain rfl := Option.some.inj hF
        have hK : _ = y := hK
        subst hK
        exact KR _ _ dL_law_650
    rw [if_neg c128] at hF
    rcases Decidable.em (((s (u18.1).toNatClampNeg) &&& (63 : Int32)) = (15 : Int32)) with c137 | c137
    · rw [if_pos c137] at hF
      refine aw_tabIn (off := 618) (tgt := 651) C dL_law_33 (by rw [c137]; decide) (by rw [c137]; decide) (by rw [c137]; rfl) (by decide) ?_
      refine aw_aload_1 C dL_law_651 ?_
      refine aw_aload_0 C dL_law_652 ?_
      refine aw_iload_3 C dL_law_653 ?_
      refine aw_iconst C dL_law_654 li_1 ?_
      refine aw_iadd C dL_law_655 ?_
      obtain ⟨s129, hF⟩ := bw_side hF
      refine aw_sald SC C dL_law_656 (aw_ix s129) ?_
      refine aw_aload_0 C dL_law_657 ?_
      refine aw_iload_3 C dL_law_658 ?_
      refine aw_iconst C dL_law_659 li_2 ?_
      refine aw_iadd C dL_law_660 ?_
      obtain ⟨s130, hF⟩ := bw_side hF
      refine aw_sald SC C dL_law_661 (aw_ix s130) ?_
      obtain ⟨q131, e132, hF⟩ := bw_bind hF
      refine cw_V2i C dL_law_662 kyX5_place lL_81 kiX5_place kvX5_place (aw_rv C rfl rfl) rfl rfl (ctX5_place (s ((u18.1 + (1 : Int32))).toNatClampNeg) (s ((u18.1 + (2 : Int32))).toNatClampNeg) u18.2 q131 e132) rfl rfl ?_
      refine aw_aload_2 C dL_law_665 ?_
      refine aw_aload_0 C dL_law_666 ?_
      refine aw_iload_3 C dL_law_667 ?_
      refine aw_iconst C dL_law_668 li_1 ?_
      refine aw_iadd C dL_law_669 ?_
      obtain ⟨s133, hF⟩ := bw_side hF
      refine aw_sald SC C dL_law_670 (aw_ix s133) ?_
      refine aw_aload_0 C dL_law_671 ?_
      refine aw_iload_3 C dL_law_672 ?_
      refine aw_iconst C dL_law_673 li_2 ?_
      refine aw_iadd C dL_law_674 ?_
      obtain ⟨s134, hF⟩ := bw_side hF
      refine aw_sald SC C dL_law_675 (aw_ix s134) ?_
      obtain ⟨q135, e136, hF⟩ := bw_bind hF
      refine cw_V2i C dL_law_676 kyX6_place lL_84 kiX6_place kvX6_place (aw_rv C rfl rfl) rfl rfl (ctX6_place n (s ((u18.1 + (1 : Int32))).toNatClampNeg) (s ((u18.1 + (2 : Int32))).toNatClampNeg) u18.2 q135 e136) rfl rfl ?_
      refine bw_icmp_eq (tgt := 1539) C dL_law_679 (by decide) hF (fun hF => ?_) (fun hF => ?_)
      · refine aw_iinc_3 C dL_law_1539 li_7 rfl rfl ?_
        refine aw_goto (tgt := 18) C dL_law_1542 (by decide) ?_
        cases hF
        exact hK
      · refine aw_iconst C dL_law_682 li_0 ?_
        obtain rfl := Option.some.inj hF
        have hK : _ = y := hK
        subst hK
        exact KR _ _ dL_law_683
    rw [if_neg c137] at hF
    rcases Decidable.em (((s (u18.1).toNatClampNeg) &&& (63 : Int32)) = (16 : Int32)) with c148 | c148
    · rw [if_pos c148] at hF
      refine aw_tabIn (off := 651) (tgt := 684) C dL_law_33 (by rw [c148]; decide) (by rw [c148]; decide) (by rw [c148]; rfl) (by decide) ?_
      refine aw_aload_1 C dL_law_684 ?_
      refine aw_aload_0 C dL_law_685 ?_
      refine aw_iload_3 C dL_law_686 ?_
      refine aw_iconst C dL_law_687 li_1 ?_
      refine aw_iadd C dL_law_688 ?_
      obtain ⟨s138, hF⟩ := bw_side hF
      refine aw_sald SC C dL_law_689 (aw_ix s138) ?_
      refine aw_aload_0 C dL_law_690 ?_
      refine aw_iload_3 C dL_law_691 ?_
      refine aw_iconst C dL_law_692 li_2 ?_
      refine aw_iadd C dL_law_693 ?_
      obtain ⟨s139, hF⟩ := bw_side hF
      refine aw_sald SC C dL_law_694 (aw_ix s139) ?_
      refine aw_aload_0 C dL_law_695 ?_
      refine aw_iload_3 C dL_law_696 ?_
      refine aw_iconst C dL_law_697 li_3 ?_
      refine aw_iadd C dL_law_698 ?_
      obtain ⟨s140, hF⟩ := bw_side hF
      refine aw_sald SC C dL_law_699 (aw_ix s140) ?_
      obtain ⟨q141, e142, hF⟩ := bw_bind hF
      refine cw_V3i C dL_law_700 kyX5_waters lL_85 kiX5_waters kvX5_waters (aw_rv C rfl rfl) rfl rfl (ctX5_waters n (s ((u18.1 + (1 : Int32))).toNatClampNeg) (s ((u18.1 + (2 : Int32))).toNatClampNeg) (s ((u18.1 + (3 : Int32))).toNatClampNeg) u18.2 q141 e142) rfl rfl ?_
      refine aw_aload_2 C dL_law_703 ?_
      refine aw_aload_0 C dL_law_704 ?_
      refine aw_iload_3 C dL_law_705 ?_
      refine aw_iconst C dL_law_706 li_1 ?_
      refine aw_iadd C dL_law_707 ?_
      obtain ⟨s143, hF⟩ := bw_side hF
      refine aw_sald SC C dL_law_708 (aw_ix s143) ?_
      refine aw_aload_0 C dL_law_709 ?_
      refine aw_iload_3 C dL_law_710 ?_
      refine aw_iconst C dL_law_711 li_2 ?_
      refine aw_iadd C dL_law_712 ?_
      obtain ⟨s144, hF⟩ := bw_side hF
      refine aw_sald SC C dL_law_713 (aw_ix s144) ?_
      refine aw_aload_0 C dL_law_714 ?_
      refine aw_iload_3 C dL_law_715 ?_
      refine aw_iconst C dL_law_716 li_3 ?_
      refine aw_iadd C dL_law_717 ?_
      obtain ⟨s145, hF⟩ := bw_side hF
      refine aw_sald SC C dL_law_718 (aw_ix s145) ?_
      obtain ⟨q146, e147, hF⟩ := bw_bind hF
      refine cw_V3i C dL_law_719 kyX6_waters lL_88 kiX6_waters kvX6_waters (aw_rv C rfl rfl) rfl rfl (ctX6_waters n (s ((u18.1 + (1 : Int32))).toNatClampNeg) (s ((u18.1 + (2 : Int32))).toNatClampNeg) (s ((u18.1 + (3 : Int32))).toNatClampNeg) q141.2 q146 e147) rfl rfl ?_
      refine bw_icmp_eq (tgt := 1539) C dL_law_722 (by decide) hF (fun hF => ?_) (fun hF => ?_)
      · refine aw_iinc_3 C dL_law_1539 li_7 rfl rfl ?_
        refine aw_goto (tgt := 18) C dL_law_1542 (by decide) ?_
        cases hF
        exact hK
      · refine aw_iconst C dL_law_725 li_0 ?_
        obtain rfl := Option.some.inj hF
        have hK : _ = y := hK
        subst hK
        exact KR _ _ dL_law_726
    rw [if_neg c148] at hF
    rcases Decidable.em (((s (u18.1).toNatClampNeg) &&& (63 : Int32)) = (17 : Int32)) with c161 | c161
    · rw [if_pos c161] at hF
      refine aw_tabIn (off := 694) (tgt := 727) C dL_law_33 (by rw [c161]; decide) (by rw [c161]; decide) (by rw [c161]; rfl) (by decide) ?_
      refine aw_aload_1 C dL_law_727 ?_
      refine aw_aload_0 C dL_law_728 ?_
      refine aw_iload_3 C dL_law_729 ?_
      refine aw_iconst C dL_law_730 li_1 ?_
      refine aw_iadd C dL_law_731 ?_
      obtain ⟨s149, hF⟩ := bw_side hF
      refine aw_sald SC C dL_law_732 (aw_ix s149) ?_
      refine aw_aload_0 C dL_law_733 ?_
      refine aw_iload_3 C dL_law_734 ?_
      refine aw_iconst C dL_law_735 li_2 ?_
      refine aw_iadd C dL_law_736 ?_
      obtain ⟨s150, hF⟩ := bw_side hF
      refine aw_sald SC C dL_law_737 (aw_ix s150) ?_
      refine aw_aload_0 C dL_law_738 ?_
      refine aw_iload_3 C dL_law_739 ?_
      refine aw_iconst C dL_law_740 li_3 ?_
      refine aw_iadd C dL_law_741 ?_
      obtain ⟨s151, hF⟩ := bw_side hF
      refine aw_sald SC C dL_law_742 (aw_ix s151) ?_
      refine aw_aload_0 C dL_law_743 ?_
      refine aw_iload_3 C dL_law_744 ?_
      refine aw_iconst C dL_law_745 li_4 ?_
      refine aw_iadd C dL_law_746 ?_
      obtain ⟨s152, hF⟩ := bw_side hF
      refine aw_sald SC C dL_law_747 (aw_ix s152) ?_
      obtain ⟨q153, e154, hF⟩ := bw_bind hF
      refine cw_V4i C dL_law_748 kyX5_water lL_89 kiX5_water kvX5_water (aw_rv C rfl rfl) rfl rfl (ctX5_water n (s ((u18.1 + (1 : Int32))).toNatClampNeg) (s ((u18.1 + (2 : Int32))).toNatClampNeg) (s ((u18.1 + (3 : Int32))).toNatClampNeg) (s ((u18.1 + (4 : Int32))).toNatClampNeg) u18.2 q153 e154) rfl rfl ?_
      refine aw_aload_2 C dL_law_751 ?_
      refine aw_aload_0 C dL_law_752 ?_
      refine aw_iload_3 C dL_law_753 ?_
      refine aw_iconst C dL_law_754 li_1 ?_
      refine aw_iadd C dL_law_755 ?_
      obtain ⟨s155, hF⟩ := bw_side hF
      refine aw_sald SC C dL_law_756 (aw_ix s155) ?_
      refine aw_aload_0 C dL_law_757 ?_
      refine aw_iload_3 C dL_law_758 ?_
      refine aw_iconst C dL_law_759 li_2 ?_
      refine aw_iadd C dL_law_760 ?_
      obtain ⟨s156, hF⟩ := bw_side hF
      refine aw_sald SC C dL_law_761 (aw_ix s156) ?_
      refine aw_aload_0 C dL_law_762 ?_
      refine aw_iload_3 C dL_law_763 ?_
      refine aw_iconst C dL_law_764 li_3 ?_
      refine aw_iadd C dL_law_765 ?_
      obtain ⟨s157, hF⟩ := bw_side hF
      refine aw_sald SC C dL_law_766 (aw_ix s157) ?_
      refine aw_aload_0 C dL_law_767 ?_
      refine aw_iload_3 C dL_law_768 ?_
      refine aw_iconst C dL_law_769 li_4 ?_
      refine aw_iadd C dL_law_770 ?_
      obtain ⟨s158, hF⟩ := bw_side hF
      refine aw_sald SC C dL_law_771 (aw_ix s158) ?_
      obtain ⟨q159, e160, hF⟩ := bw_bind hF
      refine cw_V4i C dL_law_772 kyX6_water lL_92 kiX6_water kvX6_water (aw_rv C rfl rfl) rfl rfl (ctX6_water n (s ((u18.1 + (1 : Int32))).toNatClampNeg) (s ((u18.1 + (2 : Int32))).toNatClampNeg) (s ((u18.1 + (3 : Int32))).toNatClampNeg) (s ((u18.1 + (4 : Int32))).toNatClampNeg) q153.2 q159 e160) rfl rfl ?_
      refine bw_icmp_eq (tgt := 1539) C dL_law_775 (by decide) hF (fun hF => ?_) (fun hF => ?_)
      · refine aw_iinc_3 C dL_law_1539 li_7 rfl rfl ?_
        refine aw_goto (tgt := 18) C dL_law_1542 (by decide) ?_
        cases hF
        exact hK
      · refine aw_iconst C dL_law_778 li_0 ?_
        obtain rfl := Option.some.inj hF
        have hK : _ = y := hK
        subst hK
        exact KR _ _ dL_law_779
    rw [if_neg c161] at hF
    rcases Decidable.em (((s (u18.1).toNatClampNeg) &&& (63 : Int32)) = (18 : Int32)) with c172 | c172
    · rw [if_pos c172] at hF
      refine aw_tabIn (off := 747) (tgt := 780) C dL_law_33 (by rw [c172]; decide) (by rw [c172]; decide) (by rw [c172]; rfl) (by decide) ?_
      refine aw_aload_1 C dL_law_780 ?_
      refine aw_aload_0 C dL_law_781 ?_
      refine aw_iload_3 C dL_law_782 ?_
      refine aw_iconst C dL_law_783 li_1 ?_
      refine aw_iadd C dL_law_784 ?_
      obtain ⟨s162, hF⟩ := bw_side hF
      refine aw_sald SC C dL_law_785 (aw_ix s162) ?_
      refine aw_aload_0 C dL_law_786 ?_
      refine aw_iload_3 C dL_law_787 ?_
      refine aw_iconst C dL_law_788 li_2 ?_
      refine aw_iadd C dL_law_789 ?_
      obtain ⟨s163, hF⟩ := bw_side hF
      refine aw_sald SC C dL_law_790 (aw_ix s163) ?_
      refine aw_aload_0 C dL_law_791 ?_
      refine aw_iload_3 C dL_law_792 ?_
      refine aw_iconst C dL_law_793 li_3 ?_
      refine aw_iadd C dL_law_794 ?_
      obtain ⟨s164, hF⟩ := bw_side hF
      refine aw_sald SC C dL_law_795 (aw_ix s164) ?_
      obtain ⟨q165, e166, hF⟩ := bw_bind hF
      refine cw_V3i C dL_law_796 kyX5_tells lL_93 kiX5_tells kvX5_tells (aw_rv C rfl rfl) rfl rfl (ctX5_tells n (s ((u18.1 + (1 : Int32))).toNatClampNeg) (s ((u18.1 + (2 : Int32))).toNatClampNeg) (s ((u18.1 + (3 : Int32))).toNatClampNeg) u18.2 q165 e166) rfl rfl ?_
      refine aw_aload_2 C dL_law_799 ?_
      refine aw_aload_0 C dL_law_800 ?_
      refine aw_iload_3 C dL_law_801 ?_
      refine aw_iconst C dL_law_802 li_1 ?_
      refine aw_iadd C dL_law_803 ?_
      obtain ⟨s167, hF⟩ := bw_side hF
      refine aw_sald SC C dL_law_804 (aw_ix s167) ?_
      refine aw_aload_0 C dL_law_805 ?_
      refine aw_iload_3 C dL_law_806 ?_
      refine aw_iconst C dL_law_807 li_2 ?_
      refine aw_iadd C dL_law_808 ?_
      obtain ⟨s168, hF⟩ := bw_side hF
      refine aw_sald SC C dL_law_809 (aw_ix s168) ?_
      refine aw_aload_0 C dL_law_810 ?_
      refine aw_iload_3 C dL_law_811 ?_
      refine aw_iconst C dL_law_812 li_3 ?_
      refine aw_iadd C dL_law_813 ?_
      obtain ⟨s169, hF⟩ := bw_side hF
      refine aw_sald SC C dL_law_814 (aw_ix s169) ?_
      obtain ⟨q170, e171, hF⟩ := bw_bind hF
      refine cw_V3i C dL_law_815 kyX6_tells lL_96 kiX6_tells kvX6_tells (aw_rv C rfl rfl) rfl rfl (ctX6_tells n (s ((u18.1 + (1 : Int32))).toNatClampNeg) (s ((u18.1 + (2 : Int32))).toNatClampNeg) (s ((u18.1 + (3 : Int32))).toNatClampNeg) q165.2 q170 e171) rfl rfl ?_
      refine bw_icmp_eq (tgt := 1539) C dL_law_818 (by decide) hF (fun hF => ?_) (fun hF => ?_)
      · refine aw_iinc_3 C dL_law_1539 li_7 rfl rfl ?_
        refine aw_goto (tgt := 18) C dL_law_1542 (by decide) ?_
        cases hF
        exact hK
      · refine aw_iconst C dL_law_821 li_0 ?_
        obtain rfl := Option.some.inj hF
        have hK : _ = y := hK
        subst hK
        exact KR _ _ dL_law_822
    rw [if_neg c172] at hF
    rcases Decidable.em (((s (u18.1).toNatClampNeg) &&& (63 : Int32)) = (19 : Int32)) with c187 | c187
    · rw [if_pos c187] at hF
      refine aw_tabIn (off := 790) (tgt := 823) C dL_law_33 (by rw [c187]; decide) (by rw [c187]; decide) (by rw [c187]; rfl) (by decide) ?_
      refine aw_aload_1 C dL_law_823 ?_
      refine aw_aload_0 C dL_law_824 ?_
      refine aw_iload_3 C dL_law_825 ?_
      refine aw_iconst C dL_law_826 li_1 ?_
      refine aw_iadd C dL_law_827 ?_
      obtain ⟨s173, hF⟩ := bw_side hF
      refine aw_sald SC C dL_law_828 (aw_ix s173) ?_
      refine aw_aload_0 C dL_law_829 ?_
      refine aw_iload_3 C dL_law_830 ?_
      refine aw_iconst C dL_law_831 li_2 ?_
      refine aw_iadd C dL_law_832 ?_
      obtain ⟨s174, hF⟩ := bw_side hF
      refine aw_sald SC C dL_law_833 (aw_ix s174) ?_
      refine aw_aload_0 C dL_law_834 ?_
      refine aw_iload_3 C dL_law_835 ?_
      refine aw_iconst C dL_law_836 li_3 ?_
      refine aw_iadd C dL_law_837 ?_
      obtain ⟨s175, hF⟩ := bw_side hF
      refine aw_sald SC C dL_law_838 (aw_ix s175) ?_
      refine aw_aload_0 C dL_law_839 ?_
      refine aw_iload_3 C dL_law_840 ?_
      refine aw_iconst C dL_law_841 li_4 ?_
      refine aw_iadd C dL_law_842 ?_
      obtain ⟨s176, hF⟩ := bw_side hF
      refine aw_sald SC C dL_law_843 (aw_ix s176) ?_
      refine aw_aload_0 C dL_law_844 ?_
      refine aw_iload_3 C dL_law_845 ?_
      refine aw_iconst C dL_law_846 li_5 ?_
      refine aw_iadd C dL_law_847 ?_
      obtain ⟨s177, hF⟩ := bw_side hF
      refine aw_sald SC C dL_law_848 (aw_ix s177) ?_
      obtain ⟨q178, e179, hF⟩ := bw_bind hF
      refine cw_V5i C dL_law_849 kyX5_refound lL_97 kiX5_refound kvX5_refound (aw_rv C rfl rfl) rfl rfl (ctX5_refound n (s ((u18.1 + (1 : Int32))).toNatClampNeg) (s ((u18.1 + (2 : Int32))).toNatClampNeg) (s ((u18.1 + (3 : Int32))).toNatClampNeg) (s ((u18.1 + (4 : Int32))).toNatClampNeg) (s ((u18.1 + (5 : Int32))).toNatClampNeg) u18.2 q178 e179) rfl rfl ?_
      refine aw_aload_2 C dL_law_852 ?_
      refine aw_aload_0 C dL_law_853 ?_
      refine aw_iload_3 C dL_law_854 ?_
      refine aw_iconst C dL_law_855 li_1 ?_
      refine aw_iadd C dL_law_856 ?_
      obtain ⟨s180, hF⟩ := bw_side hF
      refine aw_sald SC C dL_law_857 (aw_ix s180) ?_
      refine aw_aload_0 C dL_law_858 ?_
      refine aw_iload_3 C dL_law_859 ?_
      refine aw_iconst C dL_law_860 li_2 ?_
      refine aw_iadd C dL_law_861 ?_
      obtain ⟨s181, hF⟩ := bw_side hF
      refine aw_sald SC C dL_law_862 (aw_ix s181) ?_
      refine aw_aload_0 C dL_law_863 ?_
      refine aw_iload_3 C dL_law_864 ?_
      refine aw_iconst C dL_law_865 li_3 ?_
      refine aw_iadd C dL_law_866 ?_
      obtain ⟨s182, hF⟩ := bw_side hF
      refine aw_sald SC C dL_law_867 (aw_ix s182) ?_
      refine aw_aload_0 C dL_law_868 ?_
      refine aw_iload_3 C dL_law_869 ?_
      refine aw_iconst C dL_law_870 li_4 ?_
      refine aw_iadd C dL_law_871 ?_
      obtain ⟨s183, hF⟩ := bw_side hF
      refine aw_sald SC C dL_law_872 (aw_ix s183) ?_
      refine aw_aload_0 C dL_law_873 ?_
      refine aw_iload_3 C dL_law_874 ?_
      refine aw_iconst C dL_law_875 li_5 ?_
      refine aw_iadd C dL_law_876 ?_
      obtain ⟨s184, hF⟩ := bw_side hF
      refine aw_sald SC C dL_law_877 (aw_ix s184) ?_
      obtain ⟨q185, e186, hF⟩ := bw_bind hF
      refine cw_V5i C dL_law_878 kyX6_refound lL_101 kiX6_refound kvX6_refound (aw_rv C rfl rfl) rfl rfl (ctX6_refound n (s ((u18.1 + (1 : Int32))).toNatClampNeg) (s ((u18.1 + (2 : Int32))).toNatClampNeg) (s ((u18.1 + (3 : Int32))).toNatClampNeg) (s ((u18.1 + (4 : Int32))).toNatClampNeg) (s ((u18.1 + (5 : Int32))).toNatClampNeg) q178.2 q185 e186) rfl rfl ?_
      refine bw_icmp_eq (tgt := 1539) C dL_law_881 (by decide) hF (fun hF => ?_) (fun hF => ?_)
      · refine aw_iinc_3 C dL_law_1539 li_7 rfl rfl ?_
        refine aw_goto (tgt := 18) C dL_law_1542 (by decide) ?_
        cases hF
        exact hK
      · refine aw_iconst C dL_law_884 li_0 ?_
        obtain rfl := Option.some.inj hF
        have hK : _ = y := hK
        subst hK
        exact KR _ _ dL_law_885
    rw [if_neg c187] at hF
    rcases Decidable.em (((s (u18.1).toNatClampNeg) &&& (63 : Int32)) = (20 : Int32)) with c198 | c198
    · rw [if_pos c198] at hF
      refine aw_tabIn (off := 853) (tgt := 886) C dL_law_33 (by rw [c198]; decide) (by rw [c198]; decide) (by rw [c198]; rfl) (by decide) ?_
      refine aw_aload_1 C dL_law_886 ?_
      refine aw_aload_0 C dL_law_887 ?_
      refine aw_iload_3 C dL_law_888 ?_
      refine aw_iconst C dL_law_889 li_1 ?_
      refine aw_iadd C dL_law_890 ?_
      obtain ⟨s188, hF⟩ := bw_side hF
      refine aw_sald SC C dL_law_891 (aw_ix s188) ?_
      refine aw_aload_0 C dL_law_892 ?_
      refine aw_iload_3 C dL_law_893 ?_
      refine aw_iconst C dL_law_894 li_2 ?_
      refine aw_iadd C dL_law_895 ?_
      obtain ⟨s189, hF⟩ := bw_side hF
      refine aw_sald SC C dL_law_896 (aw_ix s189) ?_
      refine aw_aload_0 C dL_law_897 ?_
      refine aw_iload_3 C dL_law_898 ?_
      refine aw_iconst C dL_law_899 li_3 ?_
      refine aw_iadd C dL_law_900 ?_
      obtain ⟨s190, hF⟩ := bw_side hF
      refine aw_sald SC C dL_law_901 (aw_ix s190) ?_
      obtain ⟨q191, e192, hF⟩ := bw_bind hF
      refine cw_V3i C dL_law_902 kyX5_film lL_102 kiX5_film kvX5_film (aw_rv C rfl rfl) rfl rfl (ctX5_film n (s ((u18.1 + (1 : Int32))).toNatClampNeg) (s ((u18.1 + (2 : Int32))).toNatClampNeg) (s ((u18.1 + (3 : Int32))).toNatClampNeg) u18.2 q191 e192) rfl rfl ?_
      refine aw_aload_2 C dL_law_905 ?_
      refine aw_aload_0 C dL_law_906 ?_
      refine aw_iload_3 C dL_law_907 ?_
      refine aw_iconst C dL_law_908 li_1 ?_
      refine aw_iadd C dL_law_909 ?_
      obtain ⟨s193, hF⟩ := bw_side hF
      refine aw_sald SC C dL_law_910 (aw_ix s193) ?_
      refine aw_aload_0 C dL_law_911 ?_
      refine aw_iload_3 C dL_law_912 ?_
      refine aw_iconst C dL_law_913 li_2 ?_
      refine aw_iadd C dL_law_914 ?_
      obtain ⟨s194, hF⟩ := bw_side hF
      refine aw_sald SC C dL_law_915 (aw_ix s194) ?_
      refine aw_aload_0 C dL_law_916 ?_
      refine aw_iload_3 C dL_law_917 ?_
      refine aw_iconst C dL_law_918 li_3 ?_
      refine aw_iadd C dL_law_919 ?_
      obtain ⟨s195, hF⟩ := bw_side hF
      refine aw_sald SC C dL_law_920 (aw_ix s195) ?_
      obtain ⟨q196, e197, hF⟩ := bw_bind hF
      refine cw_V3i C dL_law_921 kyX6_film lL_105 kiX6_film kvX6_film (aw_rv C rfl rfl) rfl rfl (ctX6_film n (s ((u18.1 + (1 : Int32))).toNatClampNeg) (s ((u18.1 + (2 : Int32))).toNatClampNeg) (s ((u18.1 + (3 : Int32))).toNatClampNeg) q191.2 q196 e197) rfl rfl ?_
      refine bw_icmp_eq (tgt := 1539) C dL_law_924 (by decide) hF (fun hF => ?_) (fun hF => ?_)
      · refine aw_iinc_3 C dL_law_1539 li_7 rfl rfl ?_
        refine aw_goto (tgt := 18) C dL_law_1542 (by decide) ?_
        cases hF
        exact hK
      · refine aw_iconst C dL_law_927 li_0 ?_
        obtain rfl := Option.some.inj hF
        have hK : _ = y := hK
        subst hK
        exact KR _ _ dL_law_928
    rw [if_neg c198] at hF
    rcases Decidable.em (((s (u18.1).toNatClampNeg) &&& (63 : Int32)) = (21 : Int32)) with c207 | c207
    · rw [if_pos c207] at hF
      refine aw_tabIn (off := 896) (tgt := 929) C dL_law_33 (by rw [c207]; decide) (by rw [c207]; decide) (by rw [c207]; rfl) (by decide) ?_
      refine aw_aload_1 C dL_law_929 ?_
      refine aw_aload_0 C dL_law_930 ?_
      refine aw_iload_3 C dL_law_931 ?_
      refine aw_iconst C dL_law_932 li_1 ?_
      refine aw_iadd C dL_law_933 ?_
      obtain ⟨s199, hF⟩ := bw_side hF
      refine aw_sald SC C dL_law_934 (aw_ix s199) ?_
      refine aw_aload_0 C dL_law_935 ?_
      refine aw_iload_3 C dL_law_936 ?_
      refine aw_iconst C dL_law_937 li_2 ?_
      refine aw_iadd C dL_law_938 ?_
      obtain ⟨s200, hF⟩ := bw_side hF
      refine aw_sald SC C dL_law_939 (aw_ix s200) ?_
      obtain ⟨q201, e202, hF⟩ := bw_bind hF
      refine cw_V2i C dL_law_940 kyX5_nearest lL_106 kiX5_nearest kvX5_nearest (aw_rv C rfl rfl) rfl rfl (ctX5_nearest n (s ((u18.1 + (1 : Int32))).toNatClampNeg) (s ((u18.1 + (2 : Int32))).toNatClampNeg) u18.2 q201 e202) rfl rfl ?_
      refine aw_aload_2 C dL_law_943 ?_
      refine aw_aload_0 C dL_law_944 ?_
      refine aw_iload_3 C dL_law_945 ?_
      refine aw_iconst C dL_law_946 li_1 ?_
      refine aw_iadd C dL_law_947 ?_
      obtain ⟨s203, hF⟩ := bw_side hF
      refine aw_sald SC C dL_law_948 (aw_ix s203) ?_
      refine aw_aload_0 C dL_law_949 ?_
      refine aw_iload_3 C dL_law_950 ?_
      refine aw_iconst C dL_law_951 li_2 ?_
      refine aw_iadd C dL_law_952 ?_
      obtain ⟨s204, hF⟩ := bw_side hF
      refine aw_sald SC C dL_law_953 (aw_ix s204) ?_
      obtain ⟨q205, e206, hF⟩ := bw_bind hF
      refine cw_V2i C dL_law_954 kyX6_nearest lL_109 kiX6_nearest kvX6_nearest (aw_rv C rfl rfl) rfl rfl (ctX6_nearest n (s ((u18.1 + (1 : Int32))).toNatClampNeg) (s ((u18.1 + (2 : Int32))).toNatClampNeg) u18.2 q205 e206) rfl rfl ?_
      refine bw_icmp_eq (tgt := 1539) C dL_law_957 (by decide) hF (fun hF => ?_) (fun hF => ?_)
      · refine aw_iinc_3 C dL_law_1539 li_7 rfl rfl ?_
        refine aw_goto (tgt := 18) C dL_law_1542 (by decide) ?_
        cases hF
        exact hK
      · refine aw_iconst C dL_law_960 li_0 ?_
        obtain rfl := Option.some.inj hF
        have hK : _ = y := hK
        subst hK
        exact KR _ _ dL_law_961
    rw [if_neg c207] at hF
    rcases Decidable.em (((s (u18.1).toNatClampNeg) &&& (63 : Int32)) = (22 : Int32)) with c220 | c220
    · rw [if_pos c220] at hF
      refine aw_tabIn (off := 929) (tgt := 962) C dL_law_33 (by rw [c220]; decide) (by rw [c220]; decide) (by rw [c220]; rfl) (by decide) ?_
      refine aw_aload_1 C dL_law_962 ?_
      refine aw_aload_0 C dL_law_963 ?_
      refine aw_iload_3 C dL_law_964 ?_
      refine aw_iconst C dL_law_965 li_1 ?_
      refine aw_iadd C dL_law_966 ?_
      obtain ⟨s208, hF⟩ := bw_side hF
      refine aw_sald SC C dL_law_967 (aw_ix s208) ?_
      refine aw_aload_0 C dL_law_968 ?_
      refine aw_iload_3 C dL_law_969 ?_
      refine aw_iconst C dL_law_970 li_2 ?_
      refine aw_iadd C dL_law_971 ?_
      obtain ⟨s209, hF⟩ := bw_side hF
      refine aw_sald SC C dL_law_972 (aw_ix s209) ?_
      refine aw_aload_0 C dL_law_973 ?_
      refine aw_iload_3 C dL_law_974 ?_
      refine aw_iconst C dL_law_975 li_3 ?_
      refine aw_iadd C dL_law_976 ?_
      obtain ⟨s210, hF⟩ := bw_side hF
      refine aw_sald SC C dL_law_977 (aw_ix s210) ?_
      refine aw_aload_0 C dL_law_978 ?_
      refine aw_iload_3 C dL_law_979 ?_
      refine aw_iconst C dL_law_980 li_4 ?_
      refine aw_iadd C dL_law_981 ?_
      obtain ⟨s211, hF⟩ := bw_side hF
      refine aw_sald SC C dL_law_982 (aw_ix s211) ?_
      obtain ⟨q212, e213, hF⟩ := bw_bind hF
      refine cw_V4l C dL_law_983 kyX5_off lL_110 kiX5_off kvX5_off (aw_rv C rfl rfl) rfl rfl (ctX5_off n (s ((u18.1 + (1 : Int32))).toNatClampNeg) (s ((u18.1 + (2 : Int32))).toNatClampNeg) (s ((u18.1 + (3 : Int32))).toNatClampNeg) (s ((u18.1 + (4 : Int32))).toNatClampNeg) u18.2 q212 e213) rfl rfl ?_
      refine aw_aload_2 C dL_law_986 ?_
      refine aw_aload_0 C dL_law_987 ?_
      refine aw_iload_3 C dL_law_988 ?_
      refine aw_iconst C dL_law_989 li_1 ?_
      refine aw_iadd C dL_law_990 ?_
      obtain ⟨s214, hF⟩ := bw_side hF
      refine aw_sald SC C dL_law_991 (aw_ix s214) ?_
      refine aw_aload_0 C dL_law_992 ?_
      refine aw_iload_3 C dL_law_993 ?_
      refine aw_iconst C dL_law_994 li_2 ?_
      refine aw_iadd C dL_law_995 ?_
      obtain ⟨s215, hF⟩ := bw_side hF
      refine aw_sald SC C dL_law_996 (aw_ix s215) ?_
      refine aw_aload_0 C dL_law_997 ?_
      refine aw_iload_3 C dL_law_998 ?_
      refine aw_iconst C dL_law_999 li_3 ?_
      refine aw_iadd C dL_law_1000 ?_
      obtain ⟨s216, hF⟩ := bw_side hF
      refine aw_sald SC C dL_law_1001 (aw_ix s216) ?_
      refine aw_aload_0 C dL_law_1002 ?_
      refine aw_iload_3 C dL_law_1003 ?_
      refine aw_iconst C dL_law_1004 li_4 ?_
      refine aw_iadd C dL_law_1005 ?_
      obtain ⟨s217, hF⟩ := bw_side hF
      refine aw_sald SC C dL_law_1006 (aw_ix s217) ?_
      obtain ⟨q218, e219, hF⟩ := bw_bind hF
      refine cw_V4l C dL_law_1007 kyX6_off lL_114 kiX6_off kvX6_off (aw_rv C rfl rfl) rfl rfl (ctX6_off n (s ((u18.1 + (1 : Int32))).toNatClampNeg) (s ((u18.1 + (2 : Int32))).toNatClampNeg) (s ((u18.1 + (3 : Int32))).toNatClampNeg) (s ((u18.1 + (4 : Int32))).toNatClampNeg) u18.2 q218 e219) rfl rfl ?_
      refine aw_lcmp C dL_law_1010 ?_
      refine bw_if_eq (tgt := 1539) C dL_law_1011 (by decide) hF (fun hF => ?_) (fun hF => ?_)
      · refine aw_iinc_3 C dL_law_1539 li_7 rfl rfl ?_
        refine aw_goto (tgt := 18) C dL_law_1542 (by decide) ?_
        cases hF
        exact hK
      · refine aw_iconst C dL_law_1014 li_0 ?_
        obtain rfl := Option.some.inj hF
        have hK : _ = y := hK
        subst hK
        exact KR _ _ dL_law_1015
    rw [if_neg c220] at hF
    rcases Decidable.em (((s (u18.1).toNatClampNeg) &&& (63 : Int32)) = (23 : Int32)) with c227 | c227
    · rw [if_pos c227] at hF
      refine aw_tabIn (off := 983) (tgt := 1016) C dL_law_33 (by rw [c227]; decide) (by rw [c227]; decide) (by rw [c227]; rfl) (by decide) ?_
      refine aw_aload_1 C dL_law_1016 ?_
      refine aw_aload_0 C dL_law_1017 ?_
      refine aw_iload_3 C dL_law_1018 ?_
      refine aw_iconst C dL_law_1019 li_1 ?_
      refine aw_iadd C dL_law_1020 ?_
      obtain ⟨s221, hF⟩ := bw_side hF
      refine aw_sald SC C dL_law_1021 (aw_ix s221) ?_
      obtain ⟨q222, e223, hF⟩ := bw_bind hF
      refine cw_V1i C dL_law_1022 kyX5_alike lL_115 kiX5_alike kvX5_alike (aw_rv C rfl rfl) rfl rfl (ctX5_alike n (s ((u18.1 + (1 : Int32))).toNatClampNeg) u18.2 q222 e223) rfl rfl ?_
      refine aw_aload_2 C dL_law_1025 ?_
      refine aw_aload_0 C dL_law_1026 ?_
      refine aw_iload_3 C dL_law_1027 ?_
      refine aw_iconst C dL_law_1028 li_1 ?_
      refine aw_iadd C dL_law_1029 ?_
      obtain ⟨s224, hF⟩ := bw_side hF
      refine aw_sald SC C dL_law_1030 (aw_ix s224) ?_
      obtain ⟨q225, e226, hF⟩ := bw_bind hF
      refine cw_V1i C dL_law_1031 kyX6_alike lL_118 kiX6_alike kvX6_alike (aw_rv C rfl rfl) rfl rfl (ctX6_alike n (s ((u18.1 + (1 : Int32))).toNatClampNeg) u18.2 q225 e226) rfl rfl ?_
      refine bw_icmp_eq (tgt := 1539) C dL_law_1034 (by decide) hF (fun hF => ?_) (fun hF => ?_)
      · refine aw_iinc_3 C dL_law_1539 li_7 rfl rfl ?_
        refine aw_goto (tgt := 18) C dL_law_1542 (by decide) ?_
        cases hF
        exact hK
      · refine aw_iconst C dL_law_1037 li_0 ?_
        obtain rfl := Option.some.inj hF
        have hK : _ = y := hK
        subst hK
        exact KR _ _ dL_law_1038
    rw [if_neg c227] at hF
    rcases Decidable.em (((s (u18.1).toNatClampNeg) &&& (63 : Int32)) = (24 : Int32)) with c236 | c236
    · rw [if_pos c236] at hF
      refine aw_tabIn (off := 1006) (tgt := 1039) C dL_law_33 (by rw [c236]; decide) (by rw [c236]; decide) (by rw [c236]; rfl) (by decide) ?_
      refine aw_aload_1 C dL_law_1039 ?_
      refine aw_aload_0 C dL_law_1040 ?_
      refine aw_iload_3 C dL_law_1041 ?_
      refine aw_iconst C dL_law_1042 li_1 ?_
      refine aw_iadd C dL_law_1043 ?_
      obtain ⟨s228, hF⟩ := bw_side hF
      refine aw_sald SC C dL_law_1044 (aw_ix s228) ?_
      refine aw_aload_0 C dL_law_1045 ?_
      refine aw_iload_3 C dL_law_1046 ?_
      refine aw_iconst C dL_law_1047 li_2 ?_
      refine aw_iadd C dL_law_1048 ?_
      obtain ⟨s229, hF⟩ := bw_side hF
      refine aw_sald SC C dL_law_1049 (aw_ix s229) ?_
      obtain ⟨q230, e231, hF⟩ := bw_bind hF
      refine cw_V2l C dL_law_1050 kyX5_drawn lL_119 kiX5_drawn kvX5_drawn (aw_rv C rfl rfl) rfl rfl (ctX5_drawn n (s ((u18.1 + (1 : Int32))).toNatClampNeg) (s ((u18.1 + (2 : Int32))).toNatClampNeg) u18.2 q230 e231) rfl rfl ?_
      refine aw_aload_2 C dL_law_1053 ?_
      refine aw_aload_0 C dL_law_1054 ?_
      refine aw_iload_3 C dL_law_1055 ?_
      refine aw_iconst C dL_law_1056 li_1 ?_
      refine aw_iadd C dL_law_1057 ?_
      obtain ⟨s232, hF⟩ := bw_side hF
      refine aw_sald SC C dL_law_1058 (aw_ix s232) ?_
      refine aw_aload_0 C dL_law_1059 ?_
      refine aw_iload_3 C dL_law_1060 ?_
      refine aw_iconst C dL_law_1061 li_2 ?_
      refine aw_iadd C dL_law_1062 ?_
      obtain ⟨s233, hF⟩ := bw_side hF
      refine aw_sald SC C dL_law_1063 (aw_ix s233) ?_
      obtain ⟨q234, e235, hF⟩ := bw_bind hF
      refine cw_V2l C dL_law_1064 kyX6_drawn lL_122 kiX6_drawn kvX6_drawn (aw_rv C rfl rfl) rfl rfl (ctX6_drawn n (s ((u18.1 + (1 : Int32))).toNatClampNeg) (s ((u18.1 + (2 : Int32))).toNatClampNeg) q230.2 q234 e235) rfl rfl ?_
      refine aw_lcmp C dL_law_1067 ?_
      refine bw_if_eq (tgt := 1539) C dL_law_1068 (by decide) hF (fun hF => ?_) (fun hF => ?_)
      · refine aw_iinc_3 C dL_law_1539 li_7 rfl rfl ?_
        refine aw_goto (tgt := 18) C dL_law_1542 (by decide) ?_
        cases hF
        exact hK
      · refine aw_iconst C dL_law_1071 li_0 ?_
        obtain rfl := Option.some.inj hF
        have hK : _ = y := hK
        subst hK
        exact KR _ _ dL_law_1072
    rw [if_neg c236] at hF
    rcases Decidable.em (((s (u18.1).toNatClampNeg) &&& (63 : Int32)) = (25 : Int32)) with c251 | c251
    · rw [if_pos c251] at hF
      refine aw_tabIn (off := 1040) (tgt := 1073) C dL_law_33 (by rw [c251]; decide) (by rw [c251]; decide) (by rw [c251]; rfl) (by decide) ?_
      refine aw_aload_1 C dL_law_1073 ?_
      refine aw_aload_0 C dL_law_1074 ?_
      refine aw_iload_3 C dL_law_1075 ?_
      refine aw_iconst C dL_law_1076 li_1 ?_
      refine aw_iadd C dL_law_1077 ?_
      obtain ⟨s237, hF⟩ := bw_side hF
      refine aw_sald SC C dL_law_1078 (aw_ix s237) ?_
      refine aw_aload_0 C dL_law_1079 ?_
      refine aw_iload_3 C dL_law_1080 ?_
      refine aw_iconst C dL_law_1081 li_2 ?_
      refine aw_iadd C dL_law_1082 ?_
      obtain ⟨s238, hF⟩ := bw_side hF
      refine aw_sald SC C dL_law_1083 (aw_ix s238) ?_
      refine aw_aload_0 C dL_law_1084 ?_
      refine aw_iload_3 C dL_law_1085 ?_
      refine aw_iconst C dL_law_1086 li_3 ?_
      refine aw_iadd C dL_law_1087 ?_
      obtain ⟨s239, hF⟩ := bw_side hF
      refine aw_sald SC C dL_law_1088 (aw_ix s239) ?_
      refine aw_aload_0 C dL_law_1089 ?_
      refine aw_iload_3 C dL_law_1090 ?_
      refine aw_iconst C dL_law_1091 li_4 ?_
      refine aw_iadd C dL_law_1092 ?_
      obtain ⟨s240, hF⟩ := bw_side hF
      refine aw_sald SC C dL_law_1093 (aw_ix s240) ?_
      refine aw_aload_0 C dL_law_1094 ?_
      refine aw_iload_3 C dL_law_1095 ?_
      refine aw_iconst C dL_law_1096 li_5 ?_
      refine aw_iadd C dL_law_1097 ?_
      obtain ⟨s241, hF⟩ := bw_side hF
      refine aw_sald SC C dL_law_1098 (aw_ix s241) ?_
      obtain ⟨q242, e243, hF⟩ := bw_bind hF
      refine cw_V5i C dL_law_1099 kyX5_chance lL_123 kiX5_chance kvX5_chance (aw_rv C rfl rfl) rfl rfl (ctX5_chance n (s ((u18.1 + (1 : Int32))).toNatClampNeg) (s ((u18.1 + (2 : Int32))).toNatClampNeg) (s ((u18.1 + (3 : Int32))).toNatClampNeg) (s ((u18.1 + (4 : Int32))).toNatClampNeg) (s ((u18.1 + (5 : Int32))).toNatClampNeg) u18.2 q242 e243) rfl rfl ?_
      refine aw_aload_2 C dL_law_1102 ?_
      refine aw_aload_0 C dL_law_1103 ?_
      refine aw_iload_3 C dL_law_1104 ?_
      refine aw_iconst C dL_law_1105 li_1 ?_
      refine aw_iadd C dL_law_1106 ?_
      obtain ⟨s244, hF⟩ := bw_side hF
      refine aw_sald SC C dL_law_1107 (aw_ix s244) ?_
      refine aw_aload_0 C dL_law_1108 ?_
      refine aw_iload_3 C dL_law_1109 ?_
      refine aw_iconst C dL_law_1110 li_2 ?_
      refine aw_iadd C dL_law_1111 ?_
      obtain ⟨s245, hF⟩ := bw_side hF
      refine aw_sald SC C dL_law_1112 (aw_ix s245) ?_
      refine aw_aload_0 C dL_law_1113 ?_
      refine aw_iload_3 C dL_law_1114 ?_
      refine aw_iconst C dL_law_1115 li_3 ?_
      refine aw_iadd C dL_law_1116 ?_
      obtain ⟨s246, hF⟩ := bw_side hF
      refine aw_sald SC C dL_law_1117 (aw_ix s246) ?_
      refine aw_aload_0 C dL_law_1118 ?_
      refine aw_iload_3 C dL_law_1119 ?_
      refine aw_iconst C dL_law_1120 li_4 ?_
      refine aw_iadd C dL_law_1121 ?_
      obtain ⟨s247, hF⟩ := bw_side hF
      refine aw_sald SC C dL_law_1122 (aw_ix s247) ?_
      refine aw_aload_0 C dL_law_1123 ?_
      refine aw_iload_3 C dL_law_1124 ?_
      refine aw_iconst C dL_law_1125 li_5 ?_
      refine aw_iadd C dL_law_1126 ?_
      obtain ⟨s248, hF⟩ := bw_side hF
      refine aw_sald SC C dL_law_1127 (aw_ix s248) ?_
      obtain ⟨q249, e250, hF⟩ := bw_bind hF
      refine cw_V5i C dL_law_1128 kyX6_chance lL_126 kiX6_chance kvX6_chance (aw_rv C rfl rfl) rfl rfl (ctX6_chance n (s ((u18.1 + (1 : Int32))).toNatClampNeg) (s ((u18.1 + (2 : Int32))).toNatClampNeg) (s ((u18.1 + (3 : Int32))).toNatClampNeg) (s ((u18.1 + (4 : Int32))).toNatClampNeg) (s ((u18.1 + (5 : Int32))).toNatClampNeg) q242.2 q249 e250) rfl rfl ?_
      refine bw_icmp_eq (tgt := 1539) C dL_law_1131 (by decide) hF (fun hF => ?_) (fun hF => ?_)
      · refine aw_iinc_3 C dL_law_1539 li_7 rfl rfl ?_
        refine aw_goto (tgt := 18) C dL_law_1542 (by decide) ?_
        cases hF
        exact hK
      · refine aw_iconst C dL_law_1134 li_0 ?_
        obtain rfl := Option.some.inj hF
        have hK : _ = y := hK
        subst hK
        exact KR _ _ dL_law_1135
    rw [if_neg c251] at hF
    rcases Decidable.em (((s (u18.1).toNatClampNeg) &&& (63 : Int32)) = (26 : Int32)) with c268 | c268
    · rw [if_pos c268] at hF
      refine aw_tabIn (off := 1103) (tgt := 1136) C dL_law_33 (by rw [c268]; decide) (by rw [c268]; decide) (by rw [c268]; rfl) (by decide) ?_
      refine aw_aload_1 C dL_law_1136 ?_
      refine aw_aload_0 C dL_law_1137 ?_
      refine aw_iload_3 C dL_law_1138 ?_
      refine aw_iconst C dL_law_1139 li_1 ?_
      refine aw_iadd C dL_law_1140 ?_
      obtain ⟨s252, hF⟩ := bw_side hF
      refine aw_sald SC C dL_law_1141 (aw_ix s252) ?_
      refine aw_aload_0 C dL_law_1142 ?_
      refine aw_iload_3 C dL_law_1143 ?_
      refine aw_iconst C dL_law_1144 li_2 ?_
      refine aw_iadd C dL_law_1145 ?_
      obtain ⟨s253, hF⟩ := bw_side hF
      refine aw_sald SC C dL_law_1146 (aw_ix s253) ?_
      refine aw_aload_0 C dL_law_1147 ?_
      refine aw_iload_3 C dL_law_1148 ?_
      refine aw_iconst C dL_law_1149 li_3 ?_
      refine aw_iadd C dL_law_1150 ?_
      obtain ⟨s254, hF⟩ := bw_side hF
      refine aw_sald SC C dL_law_1151 (aw_ix s254) ?_
      refine aw_aload_0 C dL_law_1152 ?_
      refine aw_iload_3 C dL_law_1153 ?_
      refine aw_iconst C dL_law_1154 li_4 ?_
      refine aw_iadd C dL_law_1155 ?_
      obtain ⟨s255, hF⟩ := bw_side hF
      refine aw_sald SC C dL_law_1156 (aw_ix s255) ?_
      refine aw_aload_0 C dL_law_1157 ?_
      refine aw_iload_3 C dL_law_1158 ?_
      refine aw_iconst C dL_law_1159 li_5 ?_
      refine aw_iadd C dL_law_1160 ?_
      obtain ⟨s256, hF⟩ := bw_side hF
      refine aw_sald SC C dL_law_1161 (aw_ix s256) ?_
      refine aw_aload_0 C dL_law_1162 ?_
      refine aw_iload_3 C dL_law_1163 ?_
      refine aw_bipush C dL_law_1164 lb_6 ?_
      refine aw_iadd C dL_law_1166 ?_
      obtain ⟨s257, hF⟩ := bw_side hF
      refine aw_sald SC C dL_law_1167 (aw_ix s257) ?_
      obtain ⟨q258, e259, hF⟩ := bw_bind hF
      refine cw_V6i C dL_law_1168 kyX5_feed lL_127 kiX5_feed kvX5_feed (aw_rv C rfl rfl) rfl rfl (ctX5_feed n (s ((u18.1 + (1 : Int32))).toNatClampNeg) (s ((u18.1 + (2 : Int32))).toNatClampNeg) (s ((u18.1 + (3 : Int32))).toNatClampNeg) (s ((u18.1 + (4 : Int32))).toNatClampNeg) (s ((u18.1 + (5 : Int32))).toNatClampNeg) (s ((u18.1 + (6 : Int32))).toNatClampNeg) u18.2 q258 e259) rfl rfl ?_
      refine aw_aload_2 C dL_law_1171 ?_
      refine aw_aload_0 C dL_law_1172 ?_
      refine aw_iload_3 C dL_law_1173 ?_
      refine aw_iconst C dL_law_1174 li_1 ?_
      refine aw_iadd C dL_law_1175 ?_
      obtain ⟨s260, hF⟩ := bw_side hF
      refine aw_sald SC C dL_law_1176 (aw_ix s260) ?_
      refine aw_aload_0 C dL_law_1177 ?_
      refine aw_iload_3 C dL_law_1178 ?_
      refine aw_iconst C dL_law_1179 li_2 ?_
      refine aw_iadd C dL_law_1180 ?_
      obtain ⟨s261, hF⟩ := bw_side hF
      refine aw_sald SC C dL_law_1181 (aw_ix s261) ?_
      refine aw_aload_0 C dL_law_1182 ?_
      refine aw_iload_3 C dL_law_1183 ?_
      refine aw_iconst C dL_law_1184 li_3 ?_
      refine aw_iadd C dL_law_1185 ?_
      obtain ⟨s262, hF⟩ := bw_side hF
      refine aw_sald SC C dL_law_1186 (aw_ix s262) ?_
      refine aw_aload_0 C dL_law_1187 ?_
      refine aw_iload_3 C dL_law_1188 ?_
      refine aw_iconst C dL_law_1189 li_4 ?_
      refine aw_iadd C dL_law_1190 ?_
      obtain ⟨s263, hF⟩ := bw_side hF
      refine aw_sald SC C dL_law_1191 (aw_ix s263) ?_
      refine aw_aload_0 C dL_law_1192 ?_
      refine aw_iload_3 C dL_law_1193 ?_
      refine aw_iconst C dL_law_1194 li_5 ?_
      refine aw_iadd C dL_law_1195 ?_
      obtain ⟨s264, hF⟩ := bw_side hF
      refine aw_sald SC C dL_law_1196 (aw_ix s264) ?_
      refine aw_aload_0 C dL_law_1197 ?_
      refine aw_iload_3 C dL_law_1198 ?_
      refine aw_bipush C dL_law_1199 lb_6 ?_
      refine aw_iadd C dL_law_1201 ?_
      obtain ⟨s265, hF⟩ := bw_side hF
      refine aw_sald SC C dL_law_1202 (aw_ix s265) ?_
      obtain ⟨q266, e267, hF⟩ := bw_bind hF
      refine cw_V6i C dL_law_1203 kyX6_feed lL_131 kiX6_feed kvX6_feed (aw_rv C rfl rfl) rfl rfl (ctX6_feed n (s ((u18.1 + (1 : Int32))).toNatClampNeg) (s ((u18.1 + (2 : Int32))).toNatClampNeg) (s ((u18.1 + (3 : Int32))).toNatClampNeg) (s ((u18.1 + (4 : Int32))).toNatClampNeg) (s ((u18.1 + (5 : Int32))).toNatClampNeg) (s ((u18.1 + (6 : Int32))).toNatClampNeg) q258.2 q266 e267) rfl rfl ?_
      refine bw_icmp_eq (tgt := 1539) C dL_law_1206 (by decide) hF (fun hF => ?_) (fun hF => ?_)
      · refine aw_iinc_3 C dL_law_1539 li_7 rfl rfl ?_
        refine aw_goto (tgt := 18) C dL_law_1542 (by decide) ?_
        cases hF
        exact hK
      · refine aw_iconst C dL_law_1209 li_0 ?_
        obtain rfl := Option.some.inj hF
        have hK : _ = y := hK
        subst hK
        exact KR _ _ dL_law_1210
    rw [if_neg c268] at hF
    rcases Decidable.em (((s (u18.1).toNatClampNeg) &&& (63 : Int32)) = (27 : Int32)) with c273 | c273
    · rw [if_pos c273] at hF
      refine aw_tabIn (off := 1178) (tgt := 1211) C dL_law_33 (by rw [c273]; decide) (by rw [c273]; decide) (by rw [c273]; rfl) (by decide) ?_
      refine aw_aload_1 C dL_law_1211 ?_
      obtain ⟨q269, e270, hF⟩ := bw_bind hF
      refine cw_V0i C dL_law_1212 kyX5_text lL_132 kiX5_text kvX5_text (aw_rv C rfl rfl) rfl rfl (ctX5_text n u18.2 q269 e270) rfl rfl ?_
      refine aw_aload_2 C dL_law_1215 ?_
      obtain ⟨q271, e272, hF⟩ := bw_bind hF
      refine cw_V0i C dL_law_1216 kyX6_text lL_135 kiX6_text kvX6_text (aw_rv C rfl rfl) rfl rfl (ctX6_text n q269.2 q271 e272) rfl rfl ?_
      refine bw_icmp_eq (tgt := 1539) C dL_law_1219 (by decide) hF (fun hF => ?_) (fun hF => ?_)
      · refine aw_iinc_3 C dL_law_1539 li_7 rfl rfl ?_
        refine aw_goto (tgt := 18) C dL_law_1542 (by decide) ?_
        cases hF
        exact hK
      · refine aw_iconst C dL_law_1222 li_0 ?_
        obtain rfl := Option.some.inj hF
        have hK : _ = y := hK
        subst hK
        exact KR _ _ dL_law_1223
    rw [if_neg c273] at hF
    rcases Decidable.em (((s (u18.1).toNatClampNeg) &&& (63 : Int32)) = (28 : Int32)) with c278 | c278
    · rw [if_pos c278] at hF
      refine aw_tabIn (off := 1191) (tgt := 1224) C dL_law_33 (by rw [c278]; decide) (by rw [c278]; decide) (by rw [c278]; rfl) (by decide) ?_
      refine aw_aload_1 C dL_law_1224 ?_
      obtain ⟨q274, e275, hF⟩ := bw_bind hF
      refine cw_V0i C dL_law_1225 kyX5_image lL_136 kiX5_image kvX5_image (aw_rv C rfl rfl) rfl rfl (ctX5_image n u18.2 q274 e275) rfl rfl ?_
      refine aw_aload_2 C dL_law_1228 ?_
      obtain ⟨q276, e277, hF⟩ := bw_bind hF
      refine cw_V0i C dL_law_1229 kyX6_image lL_139 kiX6_image kvX6_image (aw_rv C rfl rfl) rfl rfl (ctX6_image q274.2 q276 e277) rfl rfl ?_
      refine bw_icmp_eq (tgt := 1539) C dL_law_1232 (by decide) hF (fun hF => ?_) (fun hF => ?_)
      · refine aw_iinc_3 C dL_law_1539 li_7 rfl rfl ?_
        refine aw_goto (tgt := 18) C dL_law_1542 (by decide) ?_
        cases hF
        exact hK
      · refine aw_iconst C dL_law_1235 li_0 ?_
        obtain rfl := Option.some.inj hF
        have hK : _ = y := hK
        subst hK
        exact KR _ _ dL_law_1236
    rw [if_neg c278] at hF
    rcases Decidable.em (((s (u18.1).toNatClampNeg) &&& (63 : Int32)) = (29 : Int32)) with c283 | c283
    · rw [if_pos c283] at hF
      refine aw_tabIn (off := 1204) (tgt := 1237) C dL_law_33 (by rw [c283]; decide) (by rw [c283]; decide) (by rw [c283]; rfl) (by decide) ?_
      refine aw_aload_1 C dL_law_1237 ?_
      obtain ⟨q279, e280, hF⟩ := bw_bind hF
      refine cw_V0i C dL_law_1238 kyX5_back lL_140 kiX5_back kvX5_back (aw_rv C rfl rfl) rfl rfl (ctX5_back n u18.2 q279 e280) rfl rfl ?_
      refine aw_aload_2 C dL_law_1241 ?_
      obtain ⟨q281, e282, hF⟩ := bw_bind hF
      refine cw_V0i C dL_law_1242 kyX6_back lL_143 kiX6_back kvX6_back (aw_rv C rfl rfl) rfl rfl (ctX6_back q279.2 q281 e282) rfl rfl ?_
      refine bw_icmp_eq (tgt := 1539) C dL_law_1245 (by decide) hF (fun hF => ?_) (fun hF => ?_)
      · refine aw_iinc_3 C dL_law_1539 li_7 rfl rfl ?_
        refine aw_goto (tgt := 18) C dL_law_1542 (by decide) ?_
        cases hF
        exact hK
      · refine aw_iconst C dL_law_1248 li_0 ?_
        obtain rfl := Option.some.inj hF
        have hK : _ = y := hK
        subst hK
        exact KR _ _ dL_law_1249
    rw [if_neg c283] at hF
    rcases Decidable.em (((s (u18.1).toNatClampNeg) &&& (63 : Int32)) = (30 : Int32)) with c296 | c296
    · rw [if_pos c296] at hF
      refine aw_tabIn (off := 1217) (tgt := 1250) C dL_law_33 (by rw [c296]; decide) (by rw [c296]; decide) (by rw [c296]; rfl) (by decide) ?_
      refine aw_aload_1 C dL_law_1250 ?_
      refine aw_aload_0 C dL_law_1251 ?_
      refine aw_iload_3 C dL_law_1252 ?_
      refine aw_iconst C dL_law_1253 li_1 ?_
      refine aw_iadd C dL_law_1254 ?_
      obtain ⟨s284, hF⟩ := bw_side hF
      refine aw_sald SC C dL_law_1255 (aw_ix s284) ?_
      refine aw_aload_0 C dL_law_1256 ?_
      refine aw_iload_3 C dL_law_1257 ?_
      refine aw_iconst C dL_law_1258 li_2 ?_
      refine aw_iadd C dL_law_1259 ?_
      obtain ⟨s285, hF⟩ := bw_side hF
      refine aw_sald SC C dL_law_1260 (aw_ix s285) ?_
      refine aw_aload_0 C dL_law_1261 ?_
      refine aw_iload_3 C dL_law_1262 ?_
      refine aw_iconst C dL_law_1263 li_3 ?_
      refine aw_iadd C dL_law_1264 ?_
      obtain ⟨s286, hF⟩ := bw_side hF
      refine aw_sald SC C dL_law_1265 (aw_ix s286) ?_
      refine aw_aload_0 C dL_law_1266 ?_
      refine aw_iload_3 C dL_law_1267 ?_
      refine aw_iconst C dL_law_1268 li_4 ?_
      refine aw_iadd C dL_law_1269 ?_
      obtain ⟨s287, hF⟩ := bw_side hF
      refine aw_sald SC C dL_law_1270 (aw_ix s287) ?_
      obtain ⟨q288, e289, hF⟩ := bw_bind hF
      refine cw_V4i C dL_law_1271 kyX5_load lL_144 kiX5_load kvX5_load (aw_rv C rfl rfl) rfl rfl (ctX5_load n (s ((u18.1 + (1 : Int32))).toNatClampNeg) (s ((u18.1 + (2 : Int32))).toNatClampNeg) (s ((u18.1 + (3 : Int32))).toNatClampNeg) (s ((u18.1 + (4 : Int32))).toNatClampNeg) u18.2 q288 e289) rfl rfl ?_
      refine aw_aload_2 C dL_law_1274 ?_
      refine aw_aload_0 C dL_law_1275 ?_
      refine aw_iload_3 C dL_law_1276 ?_
      refine aw_iconst C dL_law_1277 li_1 ?_
      refine aw_iadd C dL_law_1278 ?_
      obtain ⟨s290, hF⟩ := bw_side hF
      refine aw_sald SC C dL_law_1279 (aw_ix s290) ?_
      refine aw_aload_0 C dL_law_1280 ?_
      refine aw_iload_3 C dL_law_1281 ?_
      refine aw_iconst C dL_law_1282 li_2 ?_
      refine aw_iadd C dL_law_1283 ?_
      obtain ⟨s291, hF⟩ := bw_side hF
      refine aw_sald SC C dL_law_1284 (aw_ix s291) ?_
      refine aw_aload_0 C dL_law_1285 ?_
      refine aw_iload_3 C dL_law_1286 ?_
      refine aw_iconst C dL_law_1287 li_3 ?_
      refine aw_iadd C dL_law_1288 ?_
      obtain ⟨s292, hF⟩ := bw_side hF
      refine aw_sald SC C dL_law_1289 (aw_ix s292) ?_
      refine aw_aload_0 C dL_law_1290 ?_
      refine aw_iload_3 C dL_law_1291 ?_
      refine aw_iconst C dL_law_1292 li_4 ?_
      refine aw_iadd C dL_law_1293 ?_
      obtain ⟨s293, hF⟩ := bw_side hF
      refine aw_sald SC C dL_law_1294 (aw_ix s293) ?_
      obtain ⟨q294, e295, hF⟩ := bw_bind hF
      refine cw_V4i C dL_law_1295 kyX6_load lL_147 kiX6_load kvX6_load (aw_rv C rfl rfl) rfl rfl (ctX6_load n (s ((u18.1 + (1 : Int32))).toNatClampNeg) (s ((u18.1 + (2 : Int32))).toNatClampNeg) (s ((u18.1 + (3 : Int32))).toNatClampNeg) (s ((u18.1 + (4 : Int32))).toNatClampNeg) q288.2 q294 e295) rfl rfl ?_
      refine bw_icmp_eq (tgt := 1539) C dL_law_1298 (by decide) hF (fun hF => ?_) (fun hF => ?_)
      · refine aw_iinc_3 C dL_law_1539 li_7 rfl rfl ?_
        refine aw_goto (tgt := 18) C dL_law_1542 (by decide) ?_
        cases hF
        exact hK
      · refine aw_iconst C dL_law_1301 li_0 ?_
        obtain rfl := Option.some.inj hF
        have hK : _ = y := hK
        subst hK
        exact KR _ _ dL_law_1302
    rw [if_neg c296] at hF
    rcases Decidable.em (((s (u18.1).toNatClampNeg) &&& (63 : Int32)) = (31 : Int32)) with c303 | c303
    · rw [if_pos c303] at hF
      refine aw_tabIn (off := 1270) (tgt := 1303) C dL_law_33 (by rw [c303]; decide) (by rw [c303]; decide) (by rw [c303]; rfl) (by decide) ?_
      refine aw_aload_1 C dL_law_1303 ?_
      refine aw_aload_0 C dL_law_1304 ?_
      refine aw_iload_3 C dL_law_1305 ?_
      refine aw_iconst C dL_law_1306 li_1 ?_
      refine aw_iadd C dL_law_1307 ?_
      obtain ⟨s297, hF⟩ := bw_side hF
      refine aw_sald SC C dL_law_1308 (aw_ix s297) ?_
      obtain ⟨q298, e299, hF⟩ := bw_bind hF
      refine cw_V1i C dL_law_1309 kyX5_count lL_148 kiX5_count kvX5_count (aw_rv C rfl rfl) rfl rfl (ctX5_count n (s ((u18.1 + (1 : Int32))).toNatClampNeg) u18.2 q298 e299) rfl rfl ?_
      refine aw_aload_2 C dL_law_1312 ?_
      refine aw_aload_0 C dL_law_1313 ?_
      refine aw_iload_3 C dL_law_1314 ?_
      refine aw_iconst C dL_law_1315 li_1 ?_
      refine aw_iadd C dL_law_1316 ?_
      obtain ⟨s300, hF⟩ := bw_side hF
      refine aw_sald SC C dL_law_1317 (aw_ix s300) ?_
      obtain ⟨q301, e302, hF⟩ := bw_bind hF
      refine cw_V1i C dL_law_1318 kyX6_count lL_151 kiX6_count kvX6_count (aw_rv C rfl rfl) rfl rfl (ctX6_count n (s ((u18.1 + (1 : Int32))).toNatClampNeg) u18.2 q301 e302) rfl rfl ?_
      refine bw_icmp_eq (tgt := 1539) C dL_law_1321 (by decide) hF (fun hF => ?_) (fun hF => ?_)
      · refine aw_iinc_3 C dL_law_1539 li_7 rfl rfl ?_
        refine aw_goto (tgt := 18) C dL_law_1542 (by decide) ?_
        cases hF
        exact hK
      · refine aw_iconst C dL_law_1324 li_0 ?_
        obtain rfl := Option.some.inj hF
        have hK : _ = y := hK
        subst hK
        exact KR _ _ dL_law_1325
    rw [if_neg c303] at hF
    rcases Decidable.em (((s (u18.1).toNatClampNeg) &&& (63 : Int32)) = (32 : Int32)) with c314 | c314
    · rw [if_pos c314] at hF
      refine aw_tabIn (off := 1293) (tgt := 1326) C dL_law_33 (by rw [c314]; decide) (by rw [c314]; decide) (by rw [c314]; rfl) (by decide) ?_
      refine aw_aload_1 C dL_law_1326 ?_
      refine aw_aload_0 C dL_law_1327 ?_
      refine aw_iload_3 C dL_law_1328 ?_
      refine aw_iconst C dL_law_1329 li_1 ?_
      refine aw_iadd C dL_law_1330 ?_
      obtain ⟨s304, hF⟩ := bw_side hF
      refine aw_sald SC C dL_law_1331 (aw_ix s304) ?_
      refine aw_aload_0 C dL_law_1332 ?_
      refine aw_iload_3 C dL_law_1333 ?_
      refine aw_iconst C dL_law_1334 li_2 ?_
      refine aw_iadd C dL_law_1335 ?_
      obtain ⟨s305, hF⟩ := bw_side hF
      refine aw_sald SC C dL_law_1336 (aw_ix s305) ?_
      refine aw_aload_0 C dL_law_1337 ?_
      refine aw_iload_3 C dL_law_1338 ?_
      refine aw_iconst C dL_law_1339 li_3 ?_
      refine aw_iadd C dL_law_1340 ?_
      obtain ⟨s306, hF⟩ := bw_side hF
      refine aw_sald SC C dL_law_1341 (aw_ix s306) ?_
      obtain ⟨q307, e308, hF⟩ := bw_bind hF
      refine cw_V3i C dL_law_1342 kyX5_sheet lL_152 kiX5_sheet kvX5_sheet (aw_rv C rfl rfl) rfl rfl (ctX5_sheet n (s ((u18.1 + (1 : Int32))).toNatClampNeg) (s ((u18.1 + (2 : Int32))).toNatClampNeg) (s ((u18.1 + (3 : Int32))).toNatClampNeg) u18.2 q307 e308) rfl rfl ?_
      refine aw_aload_2 C dL_law_1345 ?_
      refine aw_aload_0 C dL_law_1346 ?_
      refine aw_iload_3 C dL_law_1347 ?_
      refine aw_iconst C dL_law_1348 li_1 ?_
      refine aw_iadd C dL_law_1349 ?_
      obtain ⟨s309, hF⟩ := bw_side hF
      refine aw_sald SC C dL_law_1350 (aw_ix s309) ?_
      refine aw_aload_0 C dL_law_1351 ?_
      refine aw_iload_3 C dL_law_1352 ?_
      refine aw_iconst C dL_law_1353 li_2 ?_
      refine aw_iadd C dL_law_1354 ?_
      obtain ⟨s310, hF⟩ := bw_side hF
      refine aw_sald SC C dL_law_1355 (aw_ix s310) ?_
      refine aw_aload_0 C dL_law_1356 ?_
      refine aw_iload_3 C dL_law_1357 ?_
      refine aw_iconst C dL_law_1358 li_3 ?_
      refine aw_iadd C dL_law_1359 ?_
      obtain ⟨s311, hF⟩ := bw_side hF
      refine aw_sald SC C dL_law_1360 (aw_ix s311) ?_
      obtain ⟨q312, e313, hF⟩ := bw_bind hF
      refine cw_V3i C dL_law_1361 kyX6_sheet lL_155 kiX6_sheet kvX6_sheet (aw_rv C rfl rfl) rfl rfl (ctX6_sheet n (s ((u18.1 + (1 : Int32))).toNatClampNeg) (s ((u18.1 + (2 : Int32))).toNatClampNeg) (s ((u18.1 + (3 : Int32))).toNatClampNeg) q307.2 q312 e313) rfl rfl ?_
      refine bw_icmp_eq (tgt := 1539) C dL_law_1364 (by decide) hF (fun hF => ?_) (fun hF => ?_)
      · refine aw_iinc_3 C dL_law_1539 li_7 rfl rfl ?_
        refine aw_goto (tgt := 18) C dL_law_1542 (by decide) ?_
        cases hF
        exact hK
      · refine aw_iconst C dL_law_1367 li_0 ?_
        obtain rfl := Option.some.inj hF
        have hK : _ = y := hK
        subst hK
        exact KR _ _ dL_law_1368
    rw [if_neg c314] at hF
    rcases Decidable.em (((s (u18.1).toNatClampNeg) &&& (63 : Int32)) = (33 : Int32)) with c327 | c327
    · rw [if_pos c327] at hF
      refine aw_tabIn (off := 1336) (tgt := 1369) C dL_law_33 (by rw [c327]; decide) (by rw [c327]; decide) (by rw [c327]; rfl) (by decide) ?_
      refine aw_aload_1 C dL_law_1369 ?_
      refine aw_aload_0 C dL_law_1370 ?_
      refine aw_iload_3 C dL_law_1371 ?_
      refine aw_iconst C dL_law_1372 li_1 ?_
      refine aw_iadd C dL_law_1373 ?_
      obtain ⟨s315, hF⟩ := bw_side hF
      refine aw_sald SC C dL_law_1374 (aw_ix s315) ?_
      refine aw_aload_0 C dL_law_1375 ?_
      refine aw_iload_3 C dL_law_1376 ?_
      refine aw_iconst C dL_law_1377 li_2 ?_
      refine aw_iadd C dL_law_1378 ?_
      obtain ⟨s316, hF⟩ := bw_side hF
      refine aw_sald SC C dL_law_1379 (aw_ix s316) ?_
      refine aw_aload_0 C dL_law_1380 ?_
      refine aw_iload_3 C dL_law_1381 ?_
      refine aw_iconst C dL_law_1382 li_3 ?_
      refine aw_iadd C dL_law_1383 ?_
      obtain ⟨s317, hF⟩ := bw_side hF
      refine aw_sald SC C dL_law_1384 (aw_ix s317) ?_
      refine aw_i2l C dL_law_1385 ?_
      refine aw_bipush C dL_law_1386 lb_32 ?_
      refine aw_lshl C dL_law_1388 rfl ?_
      refine aw_aload_0 C dL_law_1389 ?_
      refine aw_iload_3 C dL_law_1390 ?_
      refine aw_iconst C dL_law_1391 li_4 ?_
      refine aw_iadd C dL_law_1392 ?_
      obtain ⟨s318, hF⟩ := bw_side hF
      refine aw_sald SC C dL_law_1393 (aw_ix s318) ?_
      refine aw_i2l C dL_law_1394 ?_
      refine aw_ldc2 C dL_law_1395 nL_156 ?_
      refine aw_land C dL_law_1398 ?_
      refine aw_lor C dL_law_1399 ?_
      obtain ⟨q319, e320, hF⟩ := bw_bind hF
      refine cw_V3i C dL_law_1400 kyX5_put lL_158 kiX5_put kvX5_put (aw_rv C rfl rfl) rfl rfl (ctX5_put (s ((u18.1 + (1 : Int32))).toNatClampNeg) (s ((u18.1 + (2 : Int32))).toNatClampNeg) ((((s ((u18.1 + (3 : Int32))).toNatClampNeg)).toInt64 <<< (((32 : Int32)).toInt64 &&& 63)) ||| (((s ((u18.1 + (4 : Int32))).toNatClampNeg)).toInt64 &&& (4294967295 : Int64))) u18.2 q319 e320) rfl rfl ?_
      refine aw_aload_2 C dL_law_1403 ?_
      refine aw_aload_0 C dL_law_1404 ?_
      refine aw_iload_3 C dL_law_1405 ?_
      refine aw_iconst C dL_law_1406 li_1 ?_
      refine aw_iadd C dL_law_1407 ?_
      obtain ⟨s321, hF⟩ := bw_side hF
      refine aw_sald SC C dL_law_1408 (aw_ix s321) ?_
      refine aw_aload_0 C dL_law_1409 ?_
      refine aw_iload_3 C dL_law_1410 ?_
      refine aw_iconst C dL_law_1411 li_2 ?_
      refine aw_iadd C dL_law_1412 ?_
      obtain ⟨s322, hF⟩ := bw_side hF
      refine aw_sald SC C dL_law_1413 (aw_ix s322) ?_
      refine aw_aload_0 C dL_law_1414 ?_
      refine aw_iload_3 C dL_law_1415 ?_
      refine aw_iconst C dL_law_1416 li_3 ?_
      refine aw_iadd C dL_law_1417 ?_
      obtain ⟨s323, hF⟩ := bw_side hF
      refine aw_sald SC C dL_law_1418 (aw_ix s323) ?_
      refine aw_i2l C dL_law_1419 ?_
      refine aw_bipush C dL_law_1420 lb_32 ?_
      refine aw_lshl C dL_law_1422 rfl ?_
      refine aw_aload_0 C dL_law_1423 ?_
      refine aw_iload_3 C dL_law_1424 ?_
      refine aw_iconst C dL_law_1425 li_4 ?_
      refine aw_iadd C dL_law_1426 ?_
      obtain ⟨s324, hF⟩ := bw_side hF
      refine aw_sald SC C dL_law_1427 (aw_ix s324) ?_
      refine aw_i2l C dL_law_1428 ?_
      refine aw_ldc2 C dL_law_1429 nL_156 ?_
      refine aw_land C dL_law_1432 ?_
      refine aw_lor C dL_law_1433 ?_
      obtain ⟨q325, e326, hF⟩ := bw_bind hF
      refine cw_V3i C dL_law_1434 kyX6_put lL_162 kiX6_put kvX6_put (aw_rv C rfl rfl) rfl rfl (ctX6_put (s ((u18.1 + (1 : Int32))).toNatClampNeg) (s ((u18.1 + (2 : Int32))).toNatClampNeg) ((((s ((u18.1 + (3 : Int32))).toNatClampNeg)).toInt64 <<< (((32 : Int32)).toInt64 &&& 63)) ||| (((s ((u18.1 + (4 : Int32))).toNatClampNeg)).toInt64 &&& (4294967295 : Int64))) q319.2 q325 e326) rfl rfl ?_
      refine bw_icmp_eq (tgt := 1539) C dL_law_1437 (by decide) hF (fun hF => ?_) (fun hF => ?_)
      · refine aw_iinc_3 C dL_law_1539 li_7 rfl rfl ?_
        refine aw_goto (tgt := 18) C dL_law_1542 (by decide) ?_
        cases hF
        exact hK
      · refine aw_iconst C dL_law_1440 li_0 ?_
        obtain rfl := Option.some.inj hF
        have hK : _ = y := hK
        subst hK
        exact KR _ _ dL_law_1441
    rw [if_neg c327] at hF
    rcases Decidable.em (((s (u18.1).toNatClampNeg) &&& (63 : Int32)) = (34 : Int32)) with c336 | c336
    · rw [if_pos c336] at hF
      refine aw_tabIn (off := 1409) (tgt := 1442) C dL_law_33 (by rw [c336]; decide) (by rw [c336]; decide) (by rw [c336]; rfl) (by decide) ?_
      refine aw_aload_1 C dL_law_1442 ?_
      refine aw_aload_0 C dL_law_1443 ?_
      refine aw_iload_3 C dL_law_1444 ?_
      refine aw_iconst C dL_law_1445 li_1 ?_
      refine aw_iadd C dL_law_1446 ?_
      obtain ⟨s328, hF⟩ := bw_side hF
      refine aw_sald SC C dL_law_1447 (aw_ix s328) ?_
      refine aw_aload_0 C dL_law_1448 ?_
      refine aw_iload_3 C dL_law_1449 ?_
      refine aw_iconst C dL_law_1450 li_2 ?_
      refine aw_iadd C dL_law_1451 ?_
      obtain ⟨s329, hF⟩ := bw_side hF
      refine aw_sald SC C dL_law_1452 (aw_ix s329) ?_
      obtain ⟨q330, e331, hF⟩ := bw_bind hF
      refine cw_V2l C dL_law_1453 kyX5_item lL_163 kiX5_item kvX5_item (aw_rv C rfl rfl) rfl rfl (ctX5_item (s ((u18.1 + (1 : Int32))).toNatClampNeg) (s ((u18.1 + (2 : Int32))).toNatClampNeg) u18.2 q330 e331) rfl rfl ?_
      refine aw_aload_2 C dL_law_1456 ?_
      refine aw_aload_0 C dL_law_1457 ?_
      refine aw_iload_3 C dL_law_1458 ?_
      refine aw_iconst C dL_law_1459 li_1 ?_
      refine aw_iadd C dL_law_1460 ?_
      obtain ⟨s332, hF⟩ := bw_side hF
      refine aw_sald SC C dL_law_1461 (aw_ix s332) ?_
      refine aw_aload_0 C dL_law_1462 ?_
      refine aw_iload_3 C dL_law_1463 ?_
      refine aw_iconst C dL_law_1464 li_2 ?_
      refine aw_iadd C dL_law_1465 ?_
      obtain ⟨s333, hF⟩ := bw_side hF
      refine aw_sald SC C dL_law_1466 (aw_ix s333) ?_
      obtain ⟨q334, e335, hF⟩ := bw_bind hF
      refine cw_V2l C dL_law_1467 kyX6_item lL_166 kiX6_item kvX6_item (aw_rv C rfl rfl) rfl rfl (ctX6_item (s ((u18.1 + (1 : Int32))).toNatClampNeg) (s ((u18.1 + (2 : Int32))).toNatClampNeg) u18.2 q334 e335) rfl rfl ?_
      refine aw_lcmp C dL_law_1470 ?_
      refine bw_if_eq (tgt := 1539) C dL_law_1471 (by decide) hF (fun hF => ?_) (fun hF => ?_)
      · refine aw_iinc_3 C dL_law_1539 li_7 rfl rfl ?_
        refine aw_goto (tgt := 18) C dL_law_1542 (by decide) ?_
        cases hF
        exact hK
      · refine aw_iconst C dL_law_1474 li_0 ?_
        obtain rfl := Option.some.inj hF
        have hK : _ = y := hK
        subst hK
        exact KR _ _ dL_law_1475
    rw [if_neg c336] at hF
    rcases Decidable.em (((s (u18.1).toNatClampNeg) &&& (63 : Int32)) = (35 : Int32)) with c351 | c351
    · rw [if_pos c351] at hF
      refine aw_tabIn (off := 1443) (tgt := 1476) C dL_law_33 (by rw [c351]; decide) (by rw [c351]; decide) (by rw [c351]; rfl) (by decide) ?_
      refine aw_aload_1 C dL_law_1476 ?_
      refine aw_aload_0 C dL_law_1477 ?_
      refine aw_iload_3 C dL_law_1478 ?_
      refine aw_iconst C dL_law_1479 li_1 ?_
      refine aw_iadd C dL_law_1480 ?_
      obtain ⟨s337, hF⟩ := bw_side hF
      refine aw_sald SC C dL_law_1481 (aw_ix s337) ?_
      refine aw_aload_0 C dL_law_1482 ?_
      refine aw_iload_3 C dL_law_1483 ?_
      refine aw_iconst C dL_law_1484 li_2 ?_
      refine aw_iadd C dL_law_1485 ?_
      obtain ⟨s338, hF⟩ := bw_side hF
      refine aw_sald SC C dL_law_1486 (aw_ix s338) ?_
      refine aw_aload_0 C dL_law_1487 ?_
      refine aw_iload_3 C dL_law_1488 ?_
      refine aw_iconst C dL_law_1489 li_3 ?_
      refine aw_iadd C dL_law_1490 ?_
      obtain ⟨s339, hF⟩ := bw_side hF
      refine aw_sald SC C dL_law_1491 (aw_ix s339) ?_
      refine aw_aload_0 C dL_law_1492 ?_
      refine aw_iload_3 C dL_law_1493 ?_
      refine aw_iconst C dL_law_1494 li_4 ?_
      refine aw_iadd C dL_law_1495 ?_
      obtain ⟨s340, hF⟩ := bw_side hF
      refine aw_sald SC C dL_law_1496 (aw_ix s340) ?_
      refine aw_aload_0 C dL_law_1497 ?_
      refine aw_iload_3 C dL_law_1498 ?_
      refine aw_iconst C dL_law_1499 li_5 ?_
      refine aw_iadd C dL_law_1500 ?_
      obtain ⟨s341, hF⟩ := bw_side hF
      refine aw_sald SC C dL_law_1501 (aw_ix s341) ?_
      obtain ⟨q342, e343, hF⟩ := bw_bind hF
      refine cw_V5i C dL_law_1502 kyX5_copy lL_167 kiX5_copy kvX5_copy (aw_rv C rfl rfl) rfl rfl (ctX5_copy (s ((u18.1 + (1 : Int32))).toNatClampNeg) (s ((u18.1 + (2 : Int32))).toNatClampNeg) (s ((u18.1 + (3 : Int32))).toNatClampNeg) (s ((u18.1 + (4 : Int32))).toNatClampNeg) (s ((u18.1 + (5 : Int32))).toNatClampNeg) u18.2 q342 e343) rfl rfl ?_
      refine aw_aload_2 C dL_law_1505 ?_
      refine aw_aload_0 C dL_law_1506 ?_
      refine aw_iload_3 C dL_law_1507 ?_
      refine aw_iconst C dL_law_1508 li_1 ?_
      refine aw_iadd C dL_law_1509 ?_
      obtain ⟨s344, hF⟩ := bw_side hF
      refine aw_sald SC C dL_law_1510 (aw_ix s344) ?_
      refine aw_aload_0 C dL_law_1511 ?_
      refine aw_iload_3 C dL_law_1512 ?_
      refine aw_iconst C dL_law_1513 li_2 ?_
      refine aw_iadd C dL_law_1514 ?_
      obtain ⟨s345, hF⟩ := bw_side hF
      refine aw_sald SC C dL_law_1515 (aw_ix s345) ?_
      refine aw_aload_0 C dL_law_1516 ?_
      refine aw_iload_3 C dL_law_1517 ?_
      refine aw_iconst C dL_law_1518 li_3 ?_
      refine aw_iadd C dL_law_1519 ?_
      obtain ⟨s346, hF⟩ := bw_side hF
      refine aw_sald SC C dL_law_1520 (aw_ix s346) ?_
      refine aw_aload_0 C dL_law_1521 ?_
      refine aw_iload_3 C dL_law_1522 ?_
      refine aw_iconst C dL_law_1523 li_4 ?_
      refine aw_iadd C dL_law_1524 ?_
      obtain ⟨s347, hF⟩ := bw_side hF
      refine aw_sald SC C dL_law_1525 (aw_ix s347) ?_
      refine aw_aload_0 C dL_law_1526 ?_
      refine aw_iload_3 C dL_law_1527 ?_
      refine aw_iconst C dL_law_1528 li_5 ?_
      refine aw_iadd C dL_law_1529 ?_
      obtain ⟨s348, hF⟩ := bw_side hF
      refine aw_sald SC C dL_law_1530 (aw_ix s348) ?_
      obtain ⟨q349, e350, hF⟩ := bw_bind hF
      refine cw_V5i C dL_law_1531 kyX6_copy lL_170 kiX6_copy kvX6_copy (aw_rv C rfl rfl) rfl rfl (ctX6_copy (s ((u18.1 + (1 : Int32))).toNatClampNeg) (s ((u18.1 + (2 : Int32))).toNatClampNeg) (s ((u18.1 + (3 : Int32))).toNatClampNeg) (s ((u18.1 + (4 : Int32))).toNatClampNeg) (s ((u18.1 + (5 : Int32))).toNatClampNeg) q342.2 q349 e350) rfl rfl ?_
      refine bw_icmp_eq (tgt := 1539) C dL_law_1534 (by decide) hF (fun hF => ?_) (fun hF => ?_)
      · refine aw_iinc_3 C dL_law_1539 li_7 rfl rfl ?_
        refine aw_goto (tgt := 18) C dL_law_1542 (by decide) ?_
        cases hF
        exact hK
      · refine aw_iconst C dL_law_1537 li_0 ?_
        obtain rfl := Option.some.inj hF
        have hK : _ = y := hK
        subst hK
        exact KR _ _ dL_law_1538
    rw [if_neg c351] at hF
    refine aw_tabOut (tgt := 1539) C dL_law_33 (by
        have zc14 := bw_lit (z := 0) (by decide) c14
        have zc19 := bw_lit (z := 1) (by decide) c19
        have zc30 := bw_lit (z := 2) (by decide) c30
        have zc37 := bw_lit (z := 3) (by decide) c37
        have zc44 := bw_lit (z := 4) (by decide) c44
        have zc55 := bw_lit (z := 5) (by decide) c55
        have zc64 := bw_lit (z := 6) (by decide) c64
        have zc73 := bw_lit (z := 7) (by decide) c73
        have zc82 := bw_lit (z := 8) (by decide) c82
        have zc91 := bw_lit (z := 9) (by decide) c91
        have zc100 := bw_lit (z := 10) (by decide) c100
        have zc107 := bw_lit (z := 11) (by decide) c107
        have zc112 := bw_lit (z := 12) (by decide) c112
        have zc119 := bw_lit (z := 13) (by decide) c119
        have zc128 := bw_lit (z := 14) (by decide) c128
        have zc137 := bw_lit (z := 15) (by decide) c137
        have zc148 := bw_lit (z := 16) (by decide) c148
        have zc161 := bw_lit (z := 17) (by decide) c161
        have zc172 := bw_lit (z := 18) (by decide) c172
        have zc187 := bw_lit (z := 19) (by decide) c187
        have zc198 := bw_lit (z := 20) (by decide) c198
        have zc207 := bw_lit (z := 21) (by decide) c207
        have zc220 := bw_lit (z := 22) (by decide) c220
        have zc227 := bw_lit (z := 23) (by decide) c227
        have zc236 := bw_lit (z := 24) (by decide) c236
        have zc251 := bw_lit (z := 25) (by decide) c251
        have zc268 := bw_lit (z := 26) (by decide) c268
        have zc273 := bw_lit (z := 27) (by decide) c273
        have zc278 := bw_lit (z := 28) (by decide) c278
        have zc283 := bw_lit (z := 29) (by decide) c283
        have zc296 := bw_lit (z := 30) (by decide) c296
        have zc303 := bw_lit (z := 31) (by decide) c303
        have zc314 := bw_lit (z := 32) (by decide) c314
        have zc327 := bw_lit (z := 33) (by decide) c327
        have zc336 := bw_lit (z := 34) (by decide) c336
        have zc351 := bw_lit (z := 35) (by decide) c351
        omega) (by decide) ?_
    refine aw_iinc_3 C dL_law_1539 li_7 rfl rfl ?_
    refine aw_goto (tgt := 18) C dL_law_1542 (by decide) ?_
    cases hF
    exact hK

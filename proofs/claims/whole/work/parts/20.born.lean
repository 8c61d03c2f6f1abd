/-! what both constructors leave is the world wL, wR -/
def aw_out (r : aw_R) : Prop := ∀ c k : Nat, Nat.ble 82 c = true ∨ Nat.ble 20 k = true → r c k = none
theorem aw_out_0 : aw_out (fun _ _ => none) := fun _ _ _ => rfl
theorem aw_out_zR {r : aw_R} {m : Nat} (h : aw_out r) : aw_out (aw_zR r m) := fun c k hk => by
  unfold aw_zR
  split
  · rfl
  · exact h c k hk
theorem aw_out_sR {r : aw_R} {o j q : Nat} (h1 : Nat.blt o 82 = true) (h2 : Nat.blt j 20 = true) (h : aw_out r) : aw_out (aw_sR r o j q) := fun c k hk => by
  have h1 := Nat.le_of_ble_eq_true h1
  have h2 := Nat.le_of_ble_eq_true h2
  unfold aw_sR
  split
  · rename_i hc
    rcases hk with hk | hk <;> have hk := Nat.le_of_ble_eq_true hk <;> omega
  · exact h c k hk
theorem aw_out_X1 {r : aw_R} {m o : Nat} (ho : Nat.blt o 82 = true) (h : aw_out r) : aw_out (EX1_r m o r) := aw_out_sR ho rfl (aw_out_zR h)
theorem aw_out_X2 {r : aw_R} {m o : Nat} (ho : Nat.blt o 82 = true) (h : aw_out r) : aw_out (EX2_r m o r) := aw_out_sR ho rfl (aw_out_zR (aw_out_sR ho rfl (aw_out_zR h)))
theorem aw_out_X3 {r : aw_R} {m o : Nat} (ho : Nat.blt o 82 = true) (h : aw_out r) : aw_out (EX3_r m o r) := aw_out_sR ho rfl (aw_out_zR (aw_out_sR ho rfl (aw_out_zR (aw_out_sR ho rfl (aw_out_zR h)))))
theorem aw_out_X4a {r : aw_R} (h : aw_out r) : aw_out (EX4a_r r) := by
  unfold EX4a_r
  repeat (first | exact h | refine aw_out_sR rfl rfl ?_ | refine aw_out_zR ?_ | refine aw_out_X3 rfl ?_)
theorem aw_out_X4b {r : aw_R} (h : aw_out r) : aw_out (EX4b_r r) := by
  unfold EX4b_r
  repeat (first | exact h | refine aw_out_sR rfl rfl ?_ | refine aw_out_zR ?_ | refine aw_out_X3 rfl ?_)
theorem aw_out_X5 {r : aw_R} (h : aw_out r) : aw_out (EX5_r r) := by
  unfold EX5_r
  repeat (first | exact h | refine aw_out_sR rfl rfl ?_ | refine aw_out_zR ?_ | refine aw_out_X4a ?_ | refine aw_out_X4b ?_ | refine aw_out_X3 rfl ?_ | refine aw_out_X2 rfl ?_ | refine aw_out_X1 rfl ?_ | unfold EX0_r)
theorem aw_out_X6 {r : aw_R} (h : aw_out r) : aw_out (EX6_r r) := by
  unfold EX6_r
  repeat (first | exact h | refine aw_out_sR rfl rfl ?_ | refine aw_out_zR ?_)
def aw_r0 : aw_R := EX6_r (aw_zR (EX5_r (aw_zR (fun _ _ => none) 0)) 71)
def aw_h0 : aw_H := EX6_h (aw_zI (EX5_h (aw_zI (fun _ _ => 0, fun _ _ => 0) 0)) 71)
theorem aw_out_r0 : aw_out aw_r0 := aw_out_X6 (aw_out_zR (aw_out_X5 (aw_out_zR aw_out_0)))
theorem aw_in_r0 : ∀ c : Fin 82, ∀ k : Fin 20, aw_r0 c.1 k.1 = wR c.1 k.1 := by decide +kernel
theorem wRt_row : ∀ c : Fin 82, (wRt.getD c.1 []).length ≤ 20 := by decide +kernel
theorem wRt_len : wRt.length ≤ 82 := by decide +kernel
theorem aw_out_wR : aw_out wR := fun c k hk => by
  unfold wR
  by_cases hc : c < 82
  · have hk : 20 ≤ k := by
      rcases hk with hk | hk <;> have hk := Nat.le_of_ble_eq_true hk <;> omega
    rw [List.getD_eq_getElem?_getD, List.getElem?_eq_none (Nat.le_trans (wRt_row ⟨c, hc⟩) hk)]
    rfl
  · have : wRt.getD c [] = [] := by
      rw [List.getD_eq_getElem?_getD, List.getElem?_eq_none (Nat.le_trans wRt_len (by omega))]
      rfl
    rw [this]
    rfl
theorem aw_r0_eq : aw_r0 = wR := by
  funext c k
  by_cases hc : c < 82
  · by_cases hk : k < 20
    · exact aw_in_r0 ⟨c, hc⟩ ⟨k, hk⟩
    · rw [aw_out_r0 c k (Or.inr (Nat.ble_eq_true_of_le (by omega))), aw_out_wR c k (Or.inr (Nat.ble_eq_true_of_le (by omega)))]
  · rw [aw_out_r0 c k (Or.inl (Nat.ble_eq_true_of_le (by omega))), aw_out_wR c k (Or.inl (Nat.ble_eq_true_of_le (by omega)))]

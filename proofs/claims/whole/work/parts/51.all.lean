/-! the law: every answer of every run -/
theorem simB {o5 : Option (Int32 × aw_H)} {f6 : aw_H → Option (Int32 × aw_H)} {a : Int32} (k : Sim o5 f6) : ∃ h', (o5.bind (fun q6 => ((f6 q6.2).bind (fun q12 => (if q6.1 = q12.1 then (some (Sum.inl (a, q12.2)) : Option ((Int32 × aw_H) ⊕ (Int32 × aw_H))) else some (Sum.inr (0, q12.2))))))) = some (Sum.inl (a, h')) ∧ Rel h' := by
  obtain ⟨x, h1, h2, e1, e2, r⟩ := k
  refine ⟨h2, ?_, r⟩
  rw [e1]
  simp only [Option.bind_some]
  rw [e2]
  simp only [Option.bind_some, if_true]
theorem simD {o5 : Option (Int64 × aw_H)} {f6 : aw_H → Option (Int64 × aw_H)} {a : Int32} (k : SimL o5 f6) : ∃ h', (o5.bind (fun q6 => ((f6 q6.2).bind (fun q12 => (if (lg_cmp q6.1 q12.1) = 0 then (some (Sum.inl (a, q12.2)) : Option ((Int32 × aw_H) ⊕ (Int32 × aw_H))) else some (Sum.inr (0, q12.2))))))) = some (Sum.inl (a, h')) ∧ Rel h' := by
  obtain ⟨x, h1, h2, e1, e2, r⟩ := k
  refine ⟨h2, ?_, r⟩
  rw [e1]
  simp only [Option.bind_some]
  rw [e2]
  simp only [Option.bind_some]
  rw [if_pos ((lg_cmp_eq _ _).mpr rfl)]
theorem svB {o5 o6 : Option Int32} {a : Int32} {h : aw_H} (r : Rel h) (k : Sv o5 o6) : ∃ h', (o5.bind (fun q => (o6.bind (fun q' => (if q = q' then (some (Sum.inl (a, h)) : Option ((Int32 × aw_H) ⊕ (Int32 × aw_H))) else some (Sum.inr (0, h))))))) = some (Sum.inl (a, h')) ∧ Rel h' := by
  obtain ⟨x, e1, e2⟩ := k
  refine ⟨h, ?_, r⟩
  rw [e1, e2]
  simp only [Option.bind_some, if_true]
theorem svL {o5 o6 : Option Int64} {a : Int32} {h : aw_H} (r : Rel h) (k : Sv o5 o6) : ∃ h', (o5.bind (fun q => (o6.bind (fun q' => (if (lg_cmp q q') = 0 then (some (Sum.inl (a, h)) : Option ((Int32 × aw_H) ⊕ (Int32 × aw_H))) else some (Sum.inr (0, h))))))) = some (Sum.inl (a, h')) ∧ Rel h' := by
  obtain ⟨x, e1, e2⟩ := k
  refine ⟨h, ?_, r⟩
  rw [e1, e2]
  simp only [Option.bind_some]
  rw [if_pos ((lg_cmp_eq _ _).mpr rfl)]
set_option maxRecDepth 100000 in
set_option maxHeartbeats 4000000 in
theorem law_step {n m i : Nat} {s : Nat → Int32} {h : aw_H} (r : Rel h) (hn : 3000 ≤ n) (hm : m ≤ 3584) (hi : i + 7 ≤ m) : ∃ h', BL_law_18 n m s (o3 i, h) = some (Sum.inl (o3 (i + 7), h')) ∧ Rel h' := by
  have hn3 : 300 ≤ n := by omega
  have ib0 : aw_inb (o3 i) m = true := (o3_inb (by omega)).mpr (by omega)
  have e1 : o3 i + 1 = o3 (i + 1) := o3_add i 1
  have e2 : o3 i + 2 = o3 (i + 2) := o3_add i 2
  have e3 : o3 i + 3 = o3 (i + 3) := o3_add i 3
  have e4 : o3 i + 4 = o3 (i + 4) := o3_add i 4
  have e5 : o3 i + 5 = o3 (i + 5) := o3_add i 5
  have e6 : o3 i + 6 = o3 (i + 6) := o3_add i 6
  have e7 : o3 i + 7 = o3 (i + 7) := o3_add i 7
  have ib1 : aw_inb (o3 (i + 1)) m = true := (o3_inb (by omega)).mpr (by omega)
  have ib2 : aw_inb (o3 (i + 2)) m = true := (o3_inb (by omega)).mpr (by omega)
  have ib3 : aw_inb (o3 (i + 3)) m = true := (o3_inb (by omega)).mpr (by omega)
  have ib4 : aw_inb (o3 (i + 4)) m = true := (o3_inb (by omega)).mpr (by omega)
  have ib5 : aw_inb (o3 (i + 5)) m = true := (o3_inb (by omega)).mpr (by omega)
  have ib6 : aw_inb (o3 (i + 6)) m = true := (o3_inb (by omega)).mpr (by omega)
  have hend : ¬ Int32.ofNat m - 7 < o3 i := by
    show ¬ o3 m - 7 < o3 i
    rw [show (7 : Int32) = o3 7 from rfl, o3_sub (by omega) (by omega), o3_lt (by omega) (by omega)]; omega
  unfold BL_law_18
  simp only [e1, e2, e3, e4, e5, e6, e7, ib0, ib1, ib2, ib3, ib4, ib5, ib6, if_true]
  rw [if_neg hend]
  by_cases h0 : (s (o3 i).toNatClampNeg &&& 63) = 0
  · rw [if_pos h0]
    exact simB (c_part r hn3 _ _ _ _)
  rw [if_neg h0]
  by_cases h1 : (s (o3 i).toNatClampNeg &&& 63) = 1
  · rw [if_pos h1]
    exact simB (c_drop r)
  rw [if_neg h1]
  by_cases h2 : (s (o3 i).toNatClampNeg &&& 63) = 2
  · rw [if_pos h2]
    exact simB (c_gear r hn3 _ _ _)
  rw [if_neg h2]
  by_cases h3 : (s (o3 i).toNatClampNeg &&& 63) = 3
  · rw [if_pos h3]
    exact simB (c_ungear r hn3 _)
  rw [if_neg h3]
  by_cases h4 : (s (o3 i).toNatClampNeg &&& 63) = 4
  · rw [if_pos h4]
    exact simB (c_shaft r hn3 _)
  rw [if_neg h4]
  by_cases h5 : (s (o3 i).toNatClampNeg &&& 63) = 5
  · rw [if_pos h5]
    exact simB (c_set r _ _ _)
  rw [if_neg h5]
  by_cases h6 : (s (o3 i).toNatClampNeg &&& 63) = 6
  · rw [if_pos h6]
    exact simB (c_kind r _ _)
  rw [if_neg h6]
  by_cases h7 : (s (o3 i).toNatClampNeg &&& 63) = 7
  · rw [if_pos h7]
    exact svB r (c_of r _ _)
  rw [if_neg h7]
  by_cases h8 : (s (o3 i).toNatClampNeg &&& 63) = 8
  · rw [if_pos h8]
    exact svB r (c_taken r hn3 _ _)
  rw [if_neg h8]
  by_cases h9 : (s (o3 i).toNatClampNeg &&& 63) = 9
  · rw [if_pos h9]
    exact svB r (c_jam r hn3 _ _)
  rw [if_neg h9]
  by_cases h10 : (s (o3 i).toNatClampNeg &&& 63) = 10
  · rw [if_pos h10]
    exact svL r (c_speed r hn3 _ _)
  rw [if_neg h10]
  by_cases h11 : (s (o3 i).toNatClampNeg &&& 63) = 11
  · rw [if_pos h11]
    exact simB (c_turn r _)
  rw [if_neg h11]
  by_cases h12 : (s (o3 i).toNatClampNeg &&& 63) = 12
  · rw [if_pos h12]
    exact svL r (c_height r hn3)
  rw [if_neg h12]
  by_cases h13 : (s (o3 i).toNatClampNeg &&& 63) = 13
  · rw [if_pos h13]
    exact svL r (c_heightAt r hn3 _)
  rw [if_neg h13]
  by_cases h14 : (s (o3 i).toNatClampNeg &&& 63) = 14
  · rw [if_pos h14]
    exact svL r (c_heightOf r hn3 _ _)
  rw [if_neg h14]
  by_cases h15 : (s (o3 i).toNatClampNeg &&& 63) = 15
  · rw [if_pos h15]
    exact svB r (c_place r hn3 _ _)
  rw [if_neg h15]
  by_cases h16 : (s (o3 i).toNatClampNeg &&& 63) = 16
  · rw [if_pos h16]
    exact simB (c_waters r hn _ _ _)
  rw [if_neg h16]
  by_cases h17 : (s (o3 i).toNatClampNeg &&& 63) = 17
  · rw [if_pos h17]
    exact simB (c_water r hn _ _ _ _)
  rw [if_neg h17]
  by_cases h18 : (s (o3 i).toNatClampNeg &&& 63) = 18
  · rw [if_pos h18]
    exact simB (c_tells r hn _ _ _)
  rw [if_neg h18]
  by_cases h19 : (s (o3 i).toNatClampNeg &&& 63) = 19
  · rw [if_pos h19]
    exact simB (c_refound r hn _ _ _ _ _)
  rw [if_neg h19]
  by_cases h20 : (s (o3 i).toNatClampNeg &&& 63) = 20
  · rw [if_pos h20]
    exact simB (c_film r hn3 _ _ _)
  rw [if_neg h20]
  by_cases h21 : (s (o3 i).toNatClampNeg &&& 63) = 21
  · rw [if_pos h21]
    exact svB r (c_nearest hn3 _ _)
  rw [if_neg h21]
  by_cases h22 : (s (o3 i).toNatClampNeg &&& 63) = 22
  · rw [if_pos h22]
    exact svL r (c_off r hn3 _ _ _ _)
  rw [if_neg h22]
  by_cases h23 : (s (o3 i).toNatClampNeg &&& 63) = 23
  · rw [if_pos h23]
    exact svB r (c_alike r hn3 _)
  rw [if_neg h23]
  by_cases h24 : (s (o3 i).toNatClampNeg &&& 63) = 24
  · rw [if_pos h24]
    exact simD (c_drawn r hn3 _ _)
  rw [if_neg h24]
  by_cases h25 : (s (o3 i).toNatClampNeg &&& 63) = 25
  · rw [if_pos h25]
    exact simB (c_chance r hn3 _ _ _ _ _)
  rw [if_neg h25]
  by_cases h26 : (s (o3 i).toNatClampNeg &&& 63) = 26
  · rw [if_pos h26]
    exact simB (c_feed r hn3 _ _ _ _ _ _)
  rw [if_neg h26]
  by_cases h27 : (s (o3 i).toNatClampNeg &&& 63) = 27
  · rw [if_pos h27]
    exact simB (c_text r hn3)
  rw [if_neg h27]
  by_cases h28 : (s (o3 i).toNatClampNeg &&& 63) = 28
  · rw [if_pos h28]
    exact simB (c_image r hn3)
  rw [if_neg h28]
  by_cases h29 : (s (o3 i).toNatClampNeg &&& 63) = 29
  · rw [if_pos h29]
    exact simB (c_back r hn3)
  rw [if_neg h29]
  by_cases h30 : (s (o3 i).toNatClampNeg &&& 63) = 30
  · rw [if_pos h30]
    exact simB (c_load r hn3 _ _ _ _)
  rw [if_neg h30]
  by_cases h31 : (s (o3 i).toNatClampNeg &&& 63) = 31
  · rw [if_pos h31]
    exact svB r (c_count r hn3 _)
  rw [if_neg h31]
  by_cases h32 : (s (o3 i).toNatClampNeg &&& 63) = 32
  · rw [if_pos h32]
    exact simB (c_sheet r hn3 _ _ _)
  rw [if_neg h32]
  by_cases h33 : (s (o3 i).toNatClampNeg &&& 63) = 33
  · rw [if_pos h33]
    exact simB (c_put r _ _ _)
  rw [if_neg h33]
  by_cases h34 : (s (o3 i).toNatClampNeg &&& 63) = 34
  · rw [if_pos h34]
    exact svL r (c_item r _ _)
  rw [if_neg h34]
  by_cases h35 : (s (o3 i).toNatClampNeg &&& 63) = 35
  · rw [if_pos h35]
    exact simB (c_copy r _ _ _ _ _)
  rw [if_neg h35]
  exact ⟨h, rfl, r⟩
/-! the start -/
def v0 : St := fun k => if k = 67 then 64 else 0
theorem v0_ne {k : Nat} (h : k ≠ 67) : v0 k = 0 := if_neg h
theorem v0_ok : Ok v0 := by
  refine ⟨by decide, by decide, by decide, fun j hj => ?_⟩
  unfold OkP
  rw [v0_ne (by omega), v0_ne (by omega), v0_ne (by omega), v0_ne (by omega), v0_ne (by omega)]
  exact ⟨by omega, by omega, by omega, by omega, by omega, fun k hk => absurd hk (by omega)⟩
theorem h0_w : aw_h0.1 1 1 = o3 0 ∧ aw_h0.1 1 2 = o3 64 ∧ aw_h0.1 1 3 = o3 0 := by decide +kernel
theorem h0_t : ∀ j : Fin 6, ∀ k : Fin 4, aw_h0.1 (3 + 4 * j.1 + 1) k.1 = 0 ∧ aw_h0.1 (3 + 4 * j.1) 3 = 0 := by decide +kernel
theorem h0_p : ∀ j : Fin 6, ∀ k : Fin 3, aw_h0.1 (3 + 4 * j.1 + 2) k.1 = 0 ∧ aw_h0.1 (3 + 4 * j.1 + 3) k.1 = 0 := by decide +kernel
theorem h0_m : ∀ k : Fin 69, aw_h0.1 72 k.1 = o3 (v0 k.1) := by decide +kernel
theorem h0_i : aw_h0.1 0 2 = 0 ∧ aw_h0.1 71 2 = 0 := by decide +kernel
theorem h0_s : ∀ i : Fin 4, aw_h0.1 (63 + 2 * i.1) 1 = -1 ∧ aw_h0.1 74 i.1 = -1 ∧ aw_h0.1 75 i.1 = o3 0 ∧ aw_h0.1 (63 + 2 * i.1) 2 = o3 0 := by decide +kernel
theorem h0_r : ∀ i : Fin 4, ∀ k : Fin 40, aw_h0.2 (63 + 2 * i.1 + 1) k.1 = 0 ∧ aw_h0.2 76 (40 * i.1 + k.1) = 0 := by decide +kernel
theorem h0_b : aw_h0.1 54 1 = o3 0 ∧ aw_h0.1 71 12 = o3 0 := by decide +kernel
theorem h0_y : ∀ k : Fin 60, aw_h0.1 55 k.1 = o3 0 ∧ aw_h0.1 79 k.1 = o3 0 := by decide +kernel
theorem rel0 : Rel aw_h0 := by
  refine ⟨⟨v0, v0_ok, ⟨h0_w.1, h0_w.2.1, h0_w.2.2, fun j hj => ⟨⟨fun k hk => ?_, ?_, fun k hk => ⟨?_, ?_⟩⟩, fun hj2 => ?_⟩⟩, fun k hk => h0_m ⟨k, hk⟩⟩, Or.inl h0_i, fun i hi => ?_, 0, by omega, h0_b.1, h0_b.2, fun k hk => ⟨?_, 0, by omega, (h0_y ⟨k, hk⟩).1⟩⟩
  · rw [v0_ne (by omega)]; exact (h0_t ⟨j, hj⟩ ⟨k, hk⟩).1
  · rw [v0_ne (by omega)]; exact (h0_t ⟨j, hj⟩ ⟨0, by omega⟩).2
  · rw [v0_ne (by omega)]; exact (h0_p ⟨j, hj⟩ ⟨k, hk⟩).1
  · rw [v0_ne (by omega)]; exact (h0_p ⟨j, hj⟩ ⟨k, hk⟩).2
  · rw [v0_ne (by omega)] at hj2; omega
  · obtain ⟨a, b, c, d⟩ := h0_s ⟨i, hi⟩
    refine ⟨⟨?_, Or.inl ⟨b, c⟩⟩, ⟨0, by omega, d, c⟩, fun k hk => ?_⟩
    · rw [show aw_h0.1 (63 + 2 * i) 1 = -1 from a, show aw_h0.1 74 i = -1 from b]
    · obtain ⟨x, y⟩ := h0_r ⟨i, hi⟩ ⟨k, hk⟩
      rw [show aw_h0.2 (63 + 2 * i + 1) k = 0 from x, show aw_h0.2 76 (40 * i + k) = 0 from y]
  · rw [(h0_y ⟨k, hk⟩).1, (h0_y ⟨k, hk⟩).2]
theorem law_all {m n : Nat} (s : Nat → Int32) (hm : m ≤ 3584) (hn : 4000 ≤ n) {h0 : aw_H} (r0 : Rel h0) : ∃ h : aw_H, FL_law n m s h0 = some (1, h) := by
  have key : ∃ q, aw_loop (BL_law_18 n m s) n (o3 0, h0) = some q ∧ q.1 = 1 := by
    refine lp_wp (fun u => ∃ i, i ≤ m ∧ u.1 = o3 i ∧ Rel u.2) (fun u => m - u.1.toNatClampNeg) ?_ n _ ⟨0, by omega, rfl, r0⟩ (by show m - _ < n; omega)
    rintro ⟨i', u⟩ ⟨i, hi, r1, r2⟩
    replace r1 : i' = o3 i := r1
    replace r2 : Rel u := r2
    subst r1
    by_cases e : i + 7 ≤ m
    · obtain ⟨h', y1, y2⟩ := law_step (n := n) (s := s) r2 (by omega) hm e
      refine Or.inl ⟨(o3 (i + 7), h'), y1, ⟨i + 7, e, rfl, y2⟩, ?_⟩
      show m - (o3 (i + 7)).toNatClampNeg < m - (o3 i).toNatClampNeg
      rw [o3_clamp (by omega), o3_clamp (by omega)]; omega
    · refine Or.inr ⟨(1, u), ?_, rfl⟩
      unfold BL_law_18
      rw [if_pos (show Int32.ofNat m - 7 < o3 i by
        show o3 m - 7 < o3 i
        rw [Int32.lt_iff_toInt_lt, Int32.toInt_sub, o3_toInt (by omega), o3_toInt (by omega), show (7 : Int32).toInt = 7 from rfl, b32 (by omega) (by omega)]; omega)]
  obtain ⟨q, q1, q2⟩ := key
  exact ⟨q.2, by unfold FL_law; rw [show (1 : Int32) = q.1 from q2.symm]; exact q1⟩

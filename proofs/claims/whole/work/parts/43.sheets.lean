/-! the host's sheets -/
def ShS (q : Nat) : Prop := (63 ≤ q ∧ q < 71) ∨ q = 74 ∨ q = 75 ∨ q = 76 ∨ q = 81
theorem Rel.sheets {h h' : aw_H} (k : Rel h) (s : Same ShS h h') (sh : Sht h') : Rel h' := by
  obtain ⟨⟨v, k1, k2, k3⟩, k4, -, k6⟩ := k
  refine ⟨⟨v, k1, k2.fr s ?_ ?_, k3.fr s ?_⟩, k4.fr s ?_ ?_ ?_ ?_, sh, k6.fr s ?_ ?_ ?_ ?_⟩
  all_goals first | (rw [(s 71 (by unfold ShS; omega)).1]; done) | (rw [(s 54 (by unfold ShS; omega)).1]; done) | ((try intro q q1 q2); unfold ShS; omega)
theorem begin5 {n i : Nat} {so sz : Int32} {h : aw_H} (hn : 300 ≤ n) : ∃ H, FX1_begin n (63 + 2 * i) so sz h = some H ∧ Same (fun q => q = 63 + 2 * i ∨ q = 63 + 2 * i + 1) h H ∧ H.1 (63 + 2 * i) 1 = so ∧ H.1 (63 + 2 * i) 2 = sz ∧ ∀ k, k < 40 → H.2 (63 + 2 * i + 1) k = 0 := by
  unfold FX1_begin
  refine lp_wp (fun u => ∃ j, j ≤ 40 ∧ u.1 = o3 j ∧ Same (fun q => q = 63 + 2 * i ∨ q = 63 + 2 * i + 1) h u.2 ∧ u.2.1 (63 + 2 * i) 1 = so ∧ u.2.1 (63 + 2 * i) 2 = sz ∧ ∀ k, k < j → u.2.2 (63 + 2 * i + 1) k = 0) (fun u => 50 - u.1.toNatClampNeg) ?_ n _ ⟨0, by omega, rfl, (Same.sI (Or.inl rfl)).trans (Same.sI (Or.inl rfl)), ?_, sI_eq, fun k hk => absurd hk (by omega)⟩ (by show 50 - _ < n; omega)
  · rintro ⟨j', u⟩ ⟨j, hj, r1, r2, r3, r4, r5⟩
    replace r1 : j' = o3 j := r1
    replace r2 : Same (fun q => q = 63 + 2 * i ∨ q = 63 + 2 * i + 1) h u := r2
    replace r3 : u.1 (63 + 2 * i) 1 = so := r3
    replace r4 : u.1 (63 + 2 * i) 2 = sz := r4
    replace r5 : ∀ k, k < j → u.2 (63 + 2 * i + 1) k = 0 := r5
    subst r1
    by_cases e : j = 40
    · refine Or.inr ⟨u, ?_, r2, r3, r4, by rw [← e]; exact r5⟩
      unfold BX1_begin_12
      rw [if_pos (show (40 : Int32) ≤ o3 j by rw [e]; exact Int32.le_refl _)]
    · refine Or.inl ⟨(o3 (j + 1), aw_sL u (63 + 2 * i + 1) j 0), ?_, ⟨j + 1, by omega, rfl, r2.trans (Same.sL (Or.inr rfl)), r3, r4, fun k hk => ?_⟩, ?_⟩
      · unfold BX1_begin_12
        rw [if_neg (show ¬ (40 : Int32) ≤ o3 j by rw [n40, o3_le (by omega) (by omega)]; omega), if_pos ((o3_inb (by omega)).mpr (by omega))]
        simp only [o3_clamp (show j < 2147483648 by omega)]
        rw [n1, o3_add]
      · show (aw_sL u (63 + 2 * i + 1) j 0).2 (63 + 2 * i + 1) k = 0
        by_cases ek : k = j
        · rw [ek, sL_eq]
        · rw [sL_nk ek]; exact r5 k (by omega)
      · show 50 - (o3 (j + 1)).toNatClampNeg < 50 - (o3 j).toNatClampNeg
        rw [o3_clamp (by omega), o3_clamp (by omega)]; omega
  · show (aw_sI (aw_sI h (63 + 2 * i) 1 so) (63 + 2 * i) 2 sz).1 (63 + 2 * i) 1 = so
    rw [sI_nk (by omega), sI_eq]
theorem zero6 {n i : Nat} {h : aw_H} (hi : i < 4) (hn : 300 ≤ n) : ∃ H, aw_loop (BX6_sheet_71 (o3 i)) n (0, h) = some (1, H) ∧ Same (fun q => q = 76) h H ∧ (∀ k, k < 40 → H.2 76 (40 * i + k) = 0) ∧ ∀ b, ¬ (40 * i ≤ b ∧ b < 40 * i + 40) → H.2 76 b = h.2 76 b := by
  have key : ∃ q, aw_loop (BX6_sheet_71 (o3 i)) n (0, h) = some q ∧ (q.1 = 1 ∧ Same (fun q => q = 76) h q.2 ∧ (∀ k, k < 40 → q.2.2 76 (40 * i + k) = 0) ∧ ∀ b, ¬ (40 * i ≤ b ∧ b < 40 * i + 40) → q.2.2 76 b = h.2 76 b) := by
    refine lp_wp (fun u => ∃ j, j ≤ 40 ∧ u.1 = o3 j ∧ Same (fun q => q = 76) h u.2 ∧ (∀ k, k < j → u.2.2 76 (40 * i + k) = 0) ∧ ∀ b, ¬ (40 * i ≤ b ∧ b < 40 * i + 40) → u.2.2 76 b = h.2 76 b) (fun u => 50 - u.1.toNatClampNeg) ?_ n _ ⟨0, by omega, rfl, Same.rfl, fun k hk => absurd hk (by omega), fun b _ => rfl⟩ (by show 50 - _ < n; omega)
    rintro ⟨j', u⟩ ⟨j, hj, r1, r2, r3, r4⟩
    replace r1 : j' = o3 j := r1
    replace r2 : Same (fun q => q = 76) h u := r2
    replace r3 : ∀ k, k < j → u.2 76 (40 * i + k) = 0 := r3
    replace r4 : ∀ b, ¬ (40 * i ≤ b ∧ b < 40 * i + 40) → u.2 76 b = h.2 76 b := r4
    subst r1
    by_cases e : j = 40
    · refine Or.inr ⟨(1, u), ?_, rfl, r2, fun k hk => r3 k (by omega), r4⟩
      unfold BX6_sheet_71
      rw [if_pos (show (40 : Int32) ≤ o3 j by rw [e]; exact Int32.le_refl _)]
    · have ex : (40 : Int32) * o3 i + o3 j = o3 (40 * i + j) := by rw [n40, o3_mul, o3_add]
      refine Or.inl ⟨(o3 (j + 1), aw_sL u 76 (40 * i + j) 0), ?_, ⟨j + 1, by omega, rfl, r2.trans (Same.sL (S := fun q => q = 76) rfl), fun k hk => ?_, fun b hb => ?_⟩, ?_⟩
      · unfold BX6_sheet_71
        rw [if_neg (show ¬ (40 : Int32) ≤ o3 j by rw [n40, o3_le (by omega) (by omega)]; omega)]
        simp only [ex]
        rw [if_pos ((o3_inb (by omega)).mpr (by omega)), o3_clamp (by omega), n1, o3_add]
      · show (aw_sL u 76 (40 * i + j) 0).2 76 (40 * i + k) = 0
        by_cases ek : k = j
        · rw [ek, sL_eq]
        · rw [sL_nk (by omega)]; exact r3 k (by omega)
      · show (aw_sL u 76 (40 * i + j) 0).2 76 b = _
        rw [sL_nk (by omega)]; exact r4 b hb
      · show 50 - (o3 (j + 1)).toNatClampNeg < 50 - (o3 j).toNatClampNeg
        rw [o3_clamp (by omega), o3_clamp (by omega)]; omega
  obtain ⟨q, q1, q2, q3, q4, q5⟩ := key
  exact ⟨q.2, by rw [← q2]; exact q1, q3, q4, q5⟩
/-- both make a sheet anew -/
theorem anew {n i : Nat} {so sz : Int32} {h : aw_H} (k : Rel h) (hi : i < 4) (hn : 300 ≤ n) (hso : so = -1 ∧ sz = o3 0 ∨ so = 0 ∨ so = 1) (hz : ∃ z, z ≤ 40 ∧ sz = o3 z) : ∃ H, FX1_begin n (63 + 2 * i) so sz h = some H ∧ (∃ H2, aw_loop (BX6_sheet_71 (o3 i)) n (0, aw_sI (aw_sI H 74 i so) 75 i sz) = some (1, H2) ∧ Same ShS h H2 ∧ Sht H2 ∧ (∀ k, k < 40 → H2.2 (63 + 2 * i + 1) k = 0) ∧ H2.1 (63 + 2 * i) 1 = so ∧ H2.1 (63 + 2 * i) 2 = sz) ∧ Same (fun q => q = 63 + 2 * i ∨ q = 63 + 2 * i + 1) h H := by
  obtain ⟨H, b1, b2, b3, b4, b5⟩ := begin5 (n := n) (i := i) (so := so) (sz := sz) (h := h) hn
  obtain ⟨H2, c1, c2, c3, c4⟩ := zero6 (n := n) (h := aw_sI (aw_sI H 74 i so) 75 i sz) hi hn
  have s1 : Same ShS h H := b2.mono (fun q hq => by unfold ShS; omega)
  have s2 : Same ShS h H2 := ((s1.trans (Same.sI (show ShS 74 by unfold ShS; omega))).trans (Same.sI (show ShS 75 by unfold ShS; omega))).trans (c2.mono (fun q hq => by unfold ShS; omega))
  have r63 : ∀ q, 63 ≤ q → q < 71 → H2.1 q = H.1 q ∧ H2.2 q = H.2 q := fun q q1 q2 => by
    rw [(c2 q (by omega)).1, (c2 q (by omega)).2, sI_ne (by omega), sI_ne (by omega)]
    exact ⟨rfl, rfl⟩
  have e74 : ∀ j, H2.1 74 j = if j = i then so else h.1 74 j := fun j => by
    rw [(c2 74 (by omega)).1, sI_ne (by omega)]
    by_cases e : j = i
    · rw [if_pos e, e, sI_eq]
    · rw [if_neg e, sI_nk e, (b2 74 (by omega)).1]
  have e75 : ∀ j, H2.1 75 j = if j = i then sz else h.1 75 j := fun j => by
    rw [(c2 75 (by omega)).1]
    by_cases e : j = i
    · rw [if_pos e, e, sI_eq]
    · rw [if_neg e, sI_nk e, sI_ne (by omega), (b2 75 (by omega)).1]
  refine ⟨H, b1, ⟨H2, c1, s2, fun j hj => ?_, fun k hk => by rw [(r63 _ (by omega) (by omega)).2]; exact b5 k hk, by rw [(r63 _ (by omega) (by omega)).1]; exact b3, by rw [(r63 _ (by omega) (by omega)).1]; exact b4⟩, b2⟩
  rw [(r63 (63 + 2 * j) (by omega) (by omega)).1, (r63 (63 + 2 * j + 1) (by omega) (by omega)).2, e74, e75]
  by_cases e : j = i
  · subst e
    rw [if_pos rfl, if_pos rfl]
    obtain ⟨z, z1, z2⟩ := hz
    exact ⟨⟨b3, hso⟩, ⟨z, z1, by rw [b4, z2], z2⟩, fun k hk => by rw [b5 k hk, c3 k hk]⟩
  · rw [if_neg e, if_neg e, (b2 (63 + 2 * j) (by omega)).1, (b2 (63 + 2 * j + 1) (by omega)).2]
    obtain ⟨k1, k2, k3⟩ := k.2.2.1 j hj
    refine ⟨k1, k2, fun m hm => ?_⟩
    rw [c4 _ (by omega)]
    show _ = H.2 76 (40 * j + m)
    rw [(b2 76 (by omega)).2]
    exact k3 m hm
theorem sort_g (a : Int32) : (FX5_within a (-1) 1 = 0 ∧ FX6_isIn a.toInt64 (-1) 1 = 0) ∨ ((a = -1 ∨ a = 0 ∨ a = 1) ∧ ¬ FX5_within a (-1) 1 = 0 ∧ ¬ FX6_isIn a.toInt64 (-1) 1 = 0) := by
  rw [within_iff, isIn_iff]
  simp only [Int32.le_iff_toInt_le, Int64.le_iff_toInt_le, Int32.toInt_toInt64, show (-1 : Int32).toInt = -1 from rfl, show (1 : Int32).toInt = 1 from rfl, show (-1 : Int64).toInt = -1 from rfl, show (1 : Int64).toInt = 1 from rfl]
  by_cases h : (-1 : Int) ≤ a.toInt ∧ a.toInt ≤ 1
  · refine Or.inr ⟨?_, fun q => q h, fun q => q h⟩
    rcases (show a.toInt = -1 ∨ a.toInt = 0 ∨ a.toInt = 1 by omega) with e | e | e
    · exact Or.inl (Int32.toInt_inj.mp (by rw [e]; rfl))
    · exact Or.inr (Or.inl (Int32.toInt_inj.mp (by rw [e]; rfl)))
    · exact Or.inr (Or.inr (Int32.toInt_inj.mp (by rw [e]; rfl)))
  · exact Or.inl ⟨h, h⟩
theorem sheet_eq6 {n i : Nat} {so a3 : Int32} {h : aw_H} (hi : i < 4) (g1 : ¬ FX6_isSheet (o3 i) = 0) (g2 : ¬ FX6_isIn so.toInt64 (-1) 1 = 0) (h1 : so ≠ -1 → a3 ≤ 40 ∧ 0 ≤ a3) : FX6_sheet n (o3 i) so a3 h = aw_loop (BX6_sheet_71 (o3 i)) n (0, aw_sI (aw_sI h 74 i so) 75 i (if so = -1 then 0 else a3)) := by
  have ib : aw_inb (o3 i) 4 = true := (o3_inb (by omega)).mpr hi
  have ic : (o3 i).toNatClampNeg = i := o3_clamp (by omega)
  by_cases e : so = -1
  · simp only [FX6_sheet, g1, g2, e, ib, ic, if_true, if_false]
    rfl
  · obtain ⟨h2, h3⟩ := h1 e
    simp only [FX6_sheet, g1, g2, e, ib, ic, h2, h3, if_true, if_false]
    rfl
theorem c_sheet {n : Nat} {h : aw_H} (k : Rel h) (hn : 300 ≤ n) (a1 a2 a3 : Int32) : Sim (FX5_sheet n a1 a2 a3 h) (FX6_sheet n a1 a2 a3) := by
  rcases sheet_g a1 with ⟨f1, f2⟩ | ⟨i, i1, i2, i3, i4⟩
  · exact ⟨-2, h, h, by simp only [FX5_sheet, f1, if_true], by simp only [FX6_sheet, f2, if_true], k⟩
  rcases sort_g a2 with ⟨f1, f2⟩ | ⟨s1, s2, s3⟩
  · exact ⟨-2, h, h, by simp only [FX5_sheet, i3, f1, if_true, if_false], by simp only [FX6_sheet, i4, f2, if_true, if_false], k⟩
  subst i1
  have ib : aw_inb (o3 i) 4 = true := (o3_inb (by omega)).mpr i2
  have ic : (o3 i).toNatClampNeg = i := o3_clamp (by omega)
  by_cases e : a2 = -1
  · obtain ⟨H, b1, ⟨H2, c1, c2, c3, -⟩, -⟩ := anew (n := n) (so := -1) (sz := 0) k i2 hn (Or.inl ⟨rfl, rfl⟩) ⟨0, by omega, rfl⟩
    subst e
    refine ⟨1, H, H2, ?_, ?_, k.sheets c2 c3⟩
    · simp only [FX5_sheet, i3, s2, ib, ic, if_true, if_false, b1, Option.bind_some]
    · rw [sheet_eq6 i2 i4 s3 (fun q => absurd rfl q), if_pos rfl]
      exact c1
  · by_cases h1 : a3 ≤ 40
    · by_cases h2 : 0 ≤ a3
      · obtain ⟨z, z1, z2, z3⟩ := o3_of (x := a3) (by rw [Int32.le_iff_toInt_le] at h2; exact h2)
        have hz : z ≤ 40 := by
          have := h1
          rw [z1, n40, o3_le (by omega) (by omega)] at this
          exact this
        obtain ⟨H, b1, ⟨H2, c1, c2, c3, -⟩, -⟩ := anew (n := n) (so := a2) (sz := a3) k i2 hn (by rcases s1 with q | q | q; exact absurd q e; exact Or.inr (Or.inl q); exact Or.inr (Or.inr q)) ⟨z, hz, z1⟩
        refine ⟨1, H, H2, ?_, ?_, k.sheets c2 c3⟩
        · simp only [FX5_sheet, i3, s2, e, ib, ic, h1, h2, if_true, if_false, b1, Option.bind_some]
        · rw [sheet_eq6 i2 i4 s3 (fun _ => ⟨h1, h2⟩), if_neg e]
          exact c1
      · exact ⟨-14, h, h, by simp only [FX5_sheet, i3, s2, e, h1, h2, if_true, if_false], by simp only [FX6_sheet, i4, s3, e, h1, h2, if_true, if_false], k⟩
    · exact ⟨-2, h, h, by simp only [FX5_sheet, i3, s2, e, h1, if_false], by simp only [FX6_sheet, i4, s3, e, h1, if_false], k⟩
theorem holds_iff {w z : Nat} {h : aw_H} {a : Int64} {m : Int32} (e : h.1 w 2 = o3 z) (hz : z ≤ 40) (h1 : -1000000000000 ≤ a.toInt) (h2 : a.toInt ≤ 1000000000000) : (FX1_holds w a m h = 0) ↔ ¬ (0 ≤ a.toInt ∧ 0 ≤ m.toInt ∧ a.toInt + m.toInt ≤ z) := by
  have m1 := m.toInt_lt
  have m2 := m.le_toInt
  unfold FX1_holds
  simp only [lg_cmp_lt, lg_cmp_gt, e]
  simp only [Int64.lt_iff_toInt_lt, Int32.lt_iff_toInt_lt, Int64.toInt_add, Int32.toInt_toInt64, o3_toInt (show z < 2147483648 by omega), show (0 : Int64).toInt = 0 from rfl, show (0 : Int32).toInt = 0 from rfl]
  rw [b64 (by omega) (by omega)]
  split
  · simp; omega
  · split
    · simp; omega
    · split
      · simp; omega
      · simp; omega
/-- a sheet's facts for a call that looks into it -/
theorem sht_at {h : aw_H} (k : Sht h) {i : Nat} (hi : i < 4) : ∃ z, z ≤ 40 ∧ h.1 (63 + 2 * i) 2 = o3 z ∧ h.1 75 i = o3 z ∧ h.1 (63 + 2 * i) 1 = h.1 74 i ∧ (h.1 74 i = -1 ∧ z = 0 ∨ h.1 74 i = 0 ∨ h.1 74 i = 1) ∧ ∀ m, m < 40 → h.2 (63 + 2 * i + 1) m = h.2 76 (40 * i + m) := by
  obtain ⟨⟨s1, s2⟩, ⟨z, z1, z2, z3⟩, s3⟩ := k i hi
  refine ⟨z, z1, z2, z3, s1, ?_, s3⟩
  rcases s2 with ⟨q1, q2⟩ | q | q
  · rw [z3, o3_eq (by omega) (by omega)] at q2
    exact Or.inl ⟨q1, q2⟩
  · exact Or.inr (Or.inl q)
  · exact Or.inr (Or.inr q)
/-- is i a place in the sheet, in both tongues -/
theorem place_g {h : aw_H} {i z : Nat} (a : Int32) (hz : z ≤ 40) (e1 : h.1 (63 + 2 * i) 2 = o3 z) (e2 : h.1 75 i = o3 z) : (FX1_holds (63 + 2 * i) a.toInt64 1 h = 0 ∧ FX6_isIn a.toInt64 0 (h.1 75 i - 1).toInt64 = 0) ∨ (∃ x : Nat, a = o3 x ∧ x < z ∧ ¬ FX1_holds (63 + 2 * i) a.toInt64 1 h = 0 ∧ ¬ FX6_isIn a.toInt64 0 (h.1 75 i - 1).toInt64 = 0) := by
  have m1 := a.toInt_lt
  have m2 := a.le_toInt
  have e := holds_iff (h := h) (a := a.toInt64) (m := 1) e1 hz (by rw [Int32.toInt_toInt64]; omega) (by rw [Int32.toInt_toInt64]; omega)
  rw [e, isIn_iff, e2, Int64.le_iff_toInt_le, Int64.le_iff_toInt_le, Int32.toInt_toInt64, Int32.toInt_toInt64, Int32.toInt_sub, o3_toInt (by omega), show (1 : Int32).toInt = 1 from rfl, show (0 : Int64).toInt = 0 from rfl, b32 (by omega) (by omega)]
  by_cases hc : 0 ≤ a.toInt ∧ a.toInt + 1 ≤ z
  · obtain ⟨x, x1, x2, x3⟩ := o3_of (x := a) hc.1
    exact Or.inr ⟨x, x1, by omega, by omega, by omega⟩
  · exact Or.inl ⟨by omega, by omega⟩
theorem c_item {h : aw_H} (k : Rel h) (a1 a2 : Int32) : Sv (FX5_item a1 a2 h) (FX6_item a1 a2 h) := by
  rcases sheet_g a1 with ⟨f1, f2⟩ | ⟨i, i1, i2, i3, i4⟩
  · exact ⟨-9223372036854775808, by simp only [FX5_item, f1, if_true], by simp only [FX6_item, f2, if_true]⟩
  subst i1
  have ib : aw_inb (o3 i) 4 = true := (o3_inb (by omega)).mpr i2
  have ic : (o3 i).toNatClampNeg = i := o3_clamp (by omega)
  obtain ⟨z, z1, z2, z3, s1, s2, s3⟩ := sht_at k.2.2.1 i2
  have pg := place_g (h := h) a2 z1 z2 z3
  by_cases hm : h.1 74 i = -1
  · have m1 : FX1_isMissing (63 + 2 * i) h = 1 := by unfold FX1_isMissing; rw [s1, if_pos hm]
    have hz : z = 0 := by
      rcases s2 with q | q | q
      · exact q.2
      · rw [q] at hm; exact absurd hm (by decide)
      · rw [q] at hm; exact absurd hm (by decide)
    rcases pg with ⟨g1, g2⟩ | ⟨x, -, g2, -, -⟩
    · exact ⟨-9223372036854775808, by simp only [FX5_item, i3, ib, ic, m1, one_ne, if_true, if_false], by simp only [FX6_item, i4, ib, ic, g2, if_true, if_false]⟩
    · omega
  have m1 : FX1_isMissing (63 + 2 * i) h = 0 := by unfold FX1_isMissing; rw [s1, if_neg hm]
  rcases pg with ⟨g1, g2⟩ | ⟨x, g1, g2, g3, g4⟩
  · exact ⟨-9223372036854775808, by simp only [FX5_item, i3, ib, ic, m1, g1, if_true, if_false], by simp only [FX6_item, i4, ib, ic, g2, if_true, if_false]⟩
  · subst g1
    have xb : aw_inb (o3 x) 40 = true := (o3_inb (by omega)).mpr (by omega)
    refine ⟨h.2 76 (40 * i + x), ?_, ?_⟩
    · simp only [FX5_item, i3, ib, ic, m1, g3, xb, o3_clamp (show x < 2147483648 by omega), s3 x (by omega), if_true, if_false]
    · simp only [FX6_item, i4, ib, ic, g4, itemOf6 i2 (show x < 40 by omega), if_true, if_false, Option.bind_some]
theorem c_put {h : aw_H} (k : Rel h) (a1 a2 : Int32) (a3 : Int64) : Sim (FX5_put a1 a2 a3 h) (FX6_put a1 a2 a3) := by
  rcases sheet_g a1 with ⟨f1, f2⟩ | ⟨i, i1, i2, i3, i4⟩
  · exact ⟨-2, h, h, by simp only [FX5_put, f1, if_true], by simp only [FX6_put, f2, if_true], k⟩
  subst i1
  have ib : aw_inb (o3 i) 4 = true := (o3_inb (by omega)).mpr i2
  have ic : (o3 i).toNatClampNeg = i := o3_clamp (by omega)
  obtain ⟨z, z1, z2, z3, s1, s2, s3⟩ := sht_at k.2.2.1 i2
  by_cases hm : h.1 74 i = -1
  · have m1 : FX1_isMissing (63 + 2 * i) h = 1 := by unfold FX1_isMissing; rw [s1, if_pos hm]
    exact ⟨-11, h, h, by simp only [FX5_put, i3, ib, ic, m1, one_ne, if_true, if_false], by simp only [FX6_put, i4, ib, ic, hm, if_true, if_false], k⟩
  have m1 : FX1_isMissing (63 + 2 * i) h = 0 := by unfold FX1_isMissing; rw [s1, if_neg hm]
  rcases place_g (h := h) a2 z1 z2 z3 with ⟨g1, g2⟩ | ⟨x, g1, g2, g3, g4⟩
  · exact ⟨-12, h, h, by simp only [FX5_put, i3, ib, ic, m1, g1, if_true, if_false], by simp only [FX6_put, i4, ib, ic, hm, g2, if_true, if_false], k⟩
  subst g1
  have xb : aw_inb (o3 x) 40 = true := (o3_inb (by omega)).mpr (by omega)
  have xc : (o3 x).toNatClampNeg = x := o3_clamp (by omega)
  have ex : (40 : Int32) * o3 i + o3 x = o3 (40 * i + x) := by rw [n40, o3_mul, o3_add]
  have xb2 : aw_inb (o3 (40 * i + x)) 160 = true := (o3_inb (by omega)).mpr (by omega)
  have xc2 : (o3 (40 * i + x)).toNatClampNeg = 40 * i + x := o3_clamp (by omega)
  obtain ⟨y, hy⟩ : ∃ y, y = (if h.1 74 i = 1 then a3.toInt32.toInt64 else a3) := ⟨_, rfl⟩
  have wr : FX1_write (63 + 2 * i) (o3 x) a3 h = some (aw_sL h (63 + 2 * i + 1) x y) := by
    simp only [FX1_write, g3, s1, xb, xc, if_true, if_false]
    rw [hy]
    split <;> rfl
  obtain ⟨H, hH⟩ : ∃ H, H = aw_sL h (63 + 2 * i + 1) x y := ⟨_, rfl⟩
  have sH : Same (fun q => q = 63 + 2 * i + 1) h H := by rw [hH]; exact Same.sL rfl
  refine ⟨1, H, aw_sL H 76 (40 * i + x) y, by simp only [FX5_put, i3, ib, ic, m1, g3, wr, hH, Option.bind_some, if_true, if_false], ?_, ?_⟩
  · have h74 : H.1 74 i = h.1 74 i := by rw [(sH 74 (by omega)).1]
    have h75 : H.1 75 i = h.1 75 i := by rw [(sH 75 (by omega)).1]
    rw [← h75] at g4
    have hm' : ¬ H.1 74 i = -1 := by rw [h74]; exact hm
    simp only [FX6_put, i4, ib, ic, hm', g4, ex, xb2, xc2, if_true, if_false]
    rw [h74, hy]
    rcases s2 with q | q | q
    · exact absurd q.1 hm
    · rw [if_pos q, if_neg (show ¬ h.1 74 i = 1 by rw [q]; decide)]
    · rw [if_neg (show ¬ h.1 74 i = 0 by rw [q]; decide), if_pos q]
  · refine k.sheets ((sH.mono (fun q hq => ?_)).trans (Same.sL (show ShS 76 by unfold ShS; omega))) (fun j hj => ?_)
    · unfold ShS; omega
    · obtain ⟨t1, t2, t3⟩ := k.2.2.1 j hj
      have a1' : (aw_sL H 76 (40 * i + x) y).1 = h.1 := by rw [hH]; rfl
      rw [a1']
      refine ⟨t1, t2, fun m hm2 => ?_⟩
      rw [sL_ne (show ¬ 63 + 2 * j + 1 = 76 by omega)]
      by_cases e : j = i
      · subst e
        by_cases em : m = x
        · subst em
          rw [sL_eq, hH, sL_eq]
        · rw [sL_nk (by omega), hH, sL_nk em, sL_ne (by omega)]
          exact t3 m hm2
      · rw [sL_nk (by omega), hH, sL_ne (by omega), sL_ne (by omega)]
        exact t3 m hm2

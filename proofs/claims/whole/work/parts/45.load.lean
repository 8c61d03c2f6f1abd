/-! load, feed, image, back -/
theorem loadB (a1 a3 a4 : Int32) : BX6_load_72' a1 a3 a4 = BX6_load_72 a1 a3 a4 := rfl
def LdP (v : St) (i z : Nat) (row : Nat → Int64) (n : Nat) (a3 : Int32) (N j : Nat) (c : Nat) : Prop := ∃ (x : Int32) (v' : St), Ok v' ∧ (∀ h, Wks h 1 3 v → Rw h i z row → ∃ H, aw_loop (BX5_load_67 n (o3 i) a3 (o3 N)) n (o3 c, o3 j, h) = some (x, H) ∧ Wks H 1 3 v' ∧ Same WcS h H) ∧ (∀ h, Mod h v → Rm h i z row → ∃ H, aw_loop (BX6_load_72 (o3 i) a3 (o3 N)) n (o3 c, o3 j, h) = some (x, H) ∧ Mod H v' ∧ Same (fun q => q = 72) h H)
theorem load_all {i z : Nat} {row : Nat → Int64} {n : Nat} {a3 : Int32} {N : Nat} (hi : i < 4) (hz : z ≤ 40) (hN : N ≤ 6) (hn : 300 ≤ n) : ∀ (d j c m1 : Nat) (v : St), Ok v → j + d = N → c ≤ j → d < m1 → ∃ (x : Int32) (v' : St), Ok v' ∧ (∀ h, Wks h 1 3 v → Rw h i z row → ∃ H, aw_loop (BX5_load_67 n (o3 i) a3 (o3 N)) m1 (o3 c, o3 j, h) = some (x, H) ∧ Wks H 1 3 v' ∧ Same WcS h H) ∧ (∀ h, Mod h v → Rm h i z row → ∃ H, aw_loop (BX6_load_72 (o3 i) a3 (o3 N)) m1 (o3 c, o3 j, h) = some (x, H) ∧ Mod H v' ∧ Same (fun q => q = 72) h H) := by
  have ib : aw_inb (o3 i) 4 = true := (o3_inb (by omega)).mpr hi
  have ic : (o3 i).toNatClampNeg = i := o3_clamp (by omega)
  intro d
  induction d with
  | zero =>
    intro j c m1 v ok hj hc hm
    obtain ⟨m1, rfl⟩ : ∃ q, m1 = q + 1 := ⟨m1 - 1, by omega⟩
    refine ⟨o3 c, v, ok, fun h w r => ⟨h, ?_, w, Same.rfl⟩, fun h md r => ⟨h, ?_, md, Same.rfl⟩⟩
    · rw [aw_loop, show BX5_load_67 n (o3 i) a3 (o3 N) (o3 c, o3 j, h) = some (Sum.inr (o3 c, h)) by
        unfold BX5_load_67
        rw [if_pos (show o3 N ≤ o3 j by rw [o3_le (by omega) (by omega)]; omega)]]
    · rw [aw_loop, show BX6_load_72 (o3 i) a3 (o3 N) (o3 c, o3 j, h) = some (Sum.inr (o3 c, h)) by
        unfold BX6_load_72
        rw [if_pos (show o3 N ≤ o3 j by rw [o3_le (by omega) (by omega)]; omega)]]
  | succ d ih =>
    intro j c m1 v ok hj hc hm
    obtain ⟨m1, rfl⟩ : ∃ q, m1 = q + 1 := ⟨m1 - 1, by omega⟩
    have b1 := a3.toInt_lt
    have b2 := a3.le_toInt
    have e4 : (4 : Int32) * o3 j = o3 (4 * j) := by rw [n4, o3_mul]
    have e5 : a3.toInt64 + (o3 (4 * j)).toInt64 = a3.toInt64 + o6 (4 * j) := by rw [o3_i2l (by omega)]
    have e6 : a3.toInt64 + (4 : Int64) * (o3 j).toInt64 = a3.toInt64 + o6 (4 * j) := by rw [o3_i2l (by omega), show (4 : Int64) = o6 4 from rfl, o6_mul]
    have t6 : (a3.toInt64 + o6 (4 * j)).toInt = a3.toInt + 4 * (j : Int) := by
      rw [Int64.toInt_add, Int32.toInt_toInt64, o6_toInt (by omega), b64 (by omega) (by omega)]; omega
    have ne5 : ∀ h : aw_H, ¬ o3 N ≤ o3 j := fun _ => by rw [o3_le (by omega) (by omega)]; omega
    have hh : ∀ h, Rw h i z row → ((FX1_holds (63 + 2 * i) (a3.toInt64 + o6 (4 * j)) 4 h = 0) ↔ ¬ (0 ≤ a3.toInt + 4 * (j : Int) ∧ a3.toInt + 4 * (j : Int) + 4 ≤ z)) := fun h r => by
      rw [holds_iff r.1 hz (by rw [t6]; omega) (by rw [t6]; omega), t6, show (4 : Int32).toInt = 4 from rfl]
      omega
    have gg : ∀ h, Rm h i z row → ((FX6_isIn (a3.toInt64 + o6 (4 * j)) 0 (h.1 75 i - 4).toInt64 = 0) ↔ ¬ (0 ≤ a3.toInt + 4 * (j : Int) ∧ a3.toInt + 4 * (j : Int) + 4 ≤ z)) := fun h r => by
      rw [isIn_iff, Int64.le_iff_toInt_le, Int64.le_iff_toInt_le, t6, r.1, Int32.toInt_toInt64, Int32.toInt_sub, o3_toInt (by omega), show (4 : Int32).toInt = 4 from rfl, show (0 : Int64).toInt = 0 from rfl, b32 (by omega) (by omega)]
      omega
    by_cases hin : 0 ≤ a3.toInt + 4 * (j : Int) ∧ a3.toInt + 4 * (j : Int) + 4 ≤ z
    · obtain ⟨x, hx⟩ : ∃ x : Nat, x = (a3.toInt + 4 * (j : Int)).toNat := ⟨_, rfl⟩
      have hxi : (x : Int) = a3.toInt + 4 * (j : Int) := by omega
      have hx4 : x + 4 ≤ 40 := by omega
      have p0 : a3 + o3 (4 * j) = o3 x := by
        rw [← Int32.toInt_inj, Int32.toInt_add, o3_toInt (by omega), o3_toInt (by omega), b32 (by omega) (by omega)]; omega
      have p6 : (a3.toInt64 + o6 (4 * j)).toInt32 = o3 x := by
        have : a3.toInt64 + o6 (4 * j) = o6 x := by
          rw [← Int64.toInt_inj, t6, o6_toInt (by omega)]; omega
        rw [this, o6_l2i (by omega)]
      have p1 : o3 x + 1 = o3 (x + 1) := by rw [n1, o3_add]
      have p2 : o3 x + 2 = o3 (x + 2) := by rw [n2, o3_add]
      have p3 : o3 x + 3 = o3 (x + 3) := by rw [n3, o3_add]
      obtain ⟨an, v1, ok1, f5, f6⟩ := p_part (n := n) ok hn (row x).toInt32 (row (x + 1)).toInt32 (row (x + 2)).toInt32 (row (x + 3)).toInt32
      obtain ⟨c', hc', ec'⟩ : ∃ c', c' ≤ j + 1 ∧ c' = if an < 0 then c else c + 1 := ⟨_, by split <;> omega, rfl⟩
      obtain ⟨xx, v2, ok2, g5, g6⟩ := ih (j + 1) c' m1 v1 ok1 (by omega) hc' (by omega)
      have ej : o3 j + 1 = o3 (j + 1) := by rw [n1, o3_add]
      have ecc : o3 c + 1 = o3 (c + 1) := by rw [n1, o3_add]
      refine ⟨xx, v2, ok2, fun h w r => ?_, fun h md r => ?_⟩
      · obtain ⟨H, y1, y2, y3⟩ := f5 h w
        have rH : Rw H i z row := by
          refine ⟨?_, fun k hk => ?_⟩
          · rw [(y3 _ (by unfold WcS; omega)).1]; exact r.1
          · rw [(y3 _ (by unfold WcS; omega)).2]; exact r.2 k hk
        obtain ⟨H2, z1, z2, z3⟩ := g5 H y2 rH
        have pf : FX5_partFrom n (63 + 2 * i) (o3 x) h = some (an, H) := by
          unfold FX5_partFrom
          rw [p1, p2, p3, if_pos ((o3_inb (by omega)).mpr (by omega)), if_pos ((o3_inb (by omega)).mpr (by omega)), if_pos ((o3_inb (by omega)).mpr (by omega)), if_pos ((o3_inb (by omega)).mpr (by omega)), o3_clamp (by omega), o3_clamp (by omega), o3_clamp (by omega), o3_clamp (by omega), r.2 x (by omega), r.2 (x + 1) (by omega), r.2 (x + 2) (by omega), r.2 (x + 3) (by omega), y1]
          rfl
        refine ⟨H2, ?_, z2, y3.trans z3⟩
        rw [aw_loop, show BX5_load_67 n (o3 i) a3 (o3 N) (o3 c, o3 j, h) = some (Sum.inl (o3 c', o3 (j + 1), H)) by
          unfold BX5_load_67
          rw [if_neg (ne5 h), ic, e4, e5, if_neg (fun q => (hh h r).mp q hin), p0, pf]
          simp only [Option.bind_some, ej, ecc]
          rw [ec']
          split <;> rfl]
        exact z1
      · obtain ⟨H, y1, y2, y3⟩ := f6 h md
        have rH : Rm H i z row := by
          refine ⟨?_, fun k hk => ?_⟩
          · rw [(y3 75 (by omega)).1]; exact r.1
          · rw [(y3 76 (by omega)).2]; exact r.2 k hk
        obtain ⟨H2, z1, z2, z3⟩ := g6 H y2 rH
        refine ⟨H2, ?_, z2, y3.trans z3⟩
        rw [aw_loop, show BX6_load_72 (o3 i) a3 (o3 N) (o3 c, o3 j, h) = some (Sum.inl (o3 c', o3 (j + 1), H)) by
          unfold BX6_load_72
          rw [if_neg (ne5 h), if_pos ib, ic, e6, if_neg (fun q => (gg h r).mp q hin), p6, p1, p2, p3, itemOf6 hi (by omega), itemOf6 hi (by omega), itemOf6 hi (by omega), itemOf6 hi (by omega), r.2 x (by omega), r.2 (x + 1) (by omega), r.2 (x + 2) (by omega), r.2 (x + 3) (by omega)]
          simp only [Option.bind_some, y1, ej, ecc, Int32.add_zero]
          rw [ec']
          split <;> rfl]
        exact z1
    · refine ⟨-12, v, ok, fun h w r => ⟨h, ?_, w, Same.rfl⟩, fun h md r => ⟨h, ?_, md, Same.rfl⟩⟩
      · rw [aw_loop, show BX5_load_67 n (o3 i) a3 (o3 N) (o3 c, o3 j, h) = some (Sum.inr (-12, h)) by
          unfold BX5_load_67
          rw [if_neg (ne5 h), ic, e4, e5, if_pos ((hh h r).mpr hin)]]
      · rw [aw_loop, show BX6_load_72 (o3 i) a3 (o3 N) (o3 c, o3 j, h) = some (Sum.inr (-12, h)) by
          unfold BX6_load_72
          rw [if_neg (ne5 h), if_pos ib, ic, e6, if_pos ((gg h r).mpr hin)]]
theorem c_load {n : Nat} {h : aw_H} (k : Rel h) (hn : 300 ≤ n) (a1 a2 a3 a4 : Int32) : Sim (FX5_load n a1 a2 a3 a4 h) (fun H => FX6_load n a1 a2 a3 a4 H) := by
  obtain ⟨v, ok, w, md⟩ := k.1
  rcases sheet_g a1 with ⟨f1, f2⟩ | ⟨i, i1, i2, i3, i4⟩
  · exact ⟨-2, h, h, by simp only [FX5_load, f1, if_true], by simp only [FX6_load, f2, if_true], k⟩
  rcases line_g a2 with ⟨f1, f2⟩ | ⟨x, l1, l2, l3, l4⟩
  · exact ⟨-2, h, h, by simp only [FX5_load, i3, f1, if_true, if_false], by simp only [FX6_load, i4, f2, if_true, if_false], k⟩
  rcases rng a4 0 6 0 6 0 6 rfl rfl rfl rfl (by omega) (by omega) with ⟨f1, f2, -⟩ | ⟨N, c1, -, c3, c4, c5⟩
  · exact ⟨-2, h, h, by simp only [FX5_load, i3, l3, f1, if_true, if_false], by simp only [FX6_load, i4, l4, f2, if_true, if_false], k⟩
  subst i1 c1
  have ib : aw_inb (o3 i) 4 = true := (o3_inb (by omega)).mpr i2
  have ic : (o3 i).toNatClampNeg = i := o3_clamp (by omega)
  obtain ⟨z, z1, z2, z3, s1, s2, s3⟩ := sht_at k.2.2.1 i2
  by_cases hm : h.1 74 i = -1
  · have m1 : FX1_isMissing (63 + 2 * i) h = 1 := by unfold FX1_isMissing; rw [s1, if_pos hm]
    exact ⟨-11, h, h, by simp only [FX5_load, i3, l3, c4, ib, ic, m1, one_ne, if_true, if_false], by simp only [FX6_load, i4, l4, c5, ib, ic, hm, if_true, if_false], k⟩
  have m1 : FX1_isMissing (63 + 2 * i) h = 0 := by unfold FX1_isMissing; rw [s1, if_neg hm]
  by_cases hq : h.1 74 i = a2
  · have hq5 : h.1 (63 + 2 * i) 1 = a2 := by rw [s1]; exact hq
    obtain ⟨row, hrow⟩ : ∃ row, row = fun k => h.2 (63 + 2 * i + 1) k := ⟨_, rfl⟩
    have rw5 : Rw h i z row := ⟨z2, fun k hk => by rw [hrow]⟩
    have rm6 : Rm h i z row := ⟨z3, fun k hk => by rw [hrow]; exact (s3 k hk).symm⟩
    obtain ⟨xx, v', ok', g5, g6⟩ := load_all (a3 := a3) (row := row) (n := n) i2 z1 c3 hn N 0 0 n v ok (by omega) (by omega) (by omega)
    obtain ⟨H, y1, y2, y3⟩ := g5 h w rw5
    have rH : Rm H i z row := by
      refine ⟨?_, fun k hk => ?_⟩
      · rw [(y3 75 (by unfold WcS; omega)).1]; exact rm6.1
      · rw [(y3 76 (by unfold WcS; omega)).2]; exact rm6.2 k hk
    obtain ⟨H2, y4, y5, y6⟩ := g6 H (md.fr y3 (by unfold WcS; omega)) rH
    refine ⟨xx, H, H2, ?_, ?_, ?_⟩
    · simp only [FX5_load, i3, l3, c4, ib, ic, m1, hq5, if_true, if_false]
      exact y1
    · have h74 : H.1 74 i = h.1 74 i := by rw [(y3 74 (by unfold WcS; omega)).1]
      have hm' : ¬ H.1 74 i = -1 := by rw [h74]; exact hm
      have hq' : H.1 74 i = a2 := by rw [h74]; exact hq
      have ha : ¬ a2 = -1 := by rw [← hq]; exact hm
      simp only [FX6_load, i4, l4, c5, ib, ic, hq', ha, if_true, if_false]
      rw [loadB]
      exact y4
    · refine k.works ((y3.mono (fun q hq => ?_)).trans (y6.mono (fun q hq => ?_))) v' ok' (y2.fr y6 (by omega) (fun q q1 q2 => by omega)) y5
      · unfold WcS at hq; unfold WrkS; omega
      · unfold WrkS; omega
  · have hq5 : ¬ h.1 (63 + 2 * i) 1 = a2 := by rw [s1]; exact hq
    exact ⟨-13, h, h, by simp only [FX5_load, i3, l3, c4, ib, ic, m1, hq5, if_true, if_false], by simp only [FX6_load, i4, l4, c5, ib, ic, hm, hq, if_true, if_false], k⟩
/-! image, back -/
theorem becomeA {n : Nat} {h : aw_H} {u : St} (w : Wks h 27 29 u) (hn : 300 ≤ n) : ∃ H, FX4_become_a n h = some H ∧ Wks H 1 3 u ∧ Same WcS h H := by
  obtain ⟨w1, w2, w3, w4⟩ := w
  unfold FX4_become_a
  refine lp_wp (fun x => ∃ j, j ≤ 6 ∧ x.1 = o3 j ∧ Same WcS h x.2 ∧ ∀ m, m < j → Whl x.2 (3 + 4 * m) u m ∧ (m < u 66 → Spd x.2 (3 + 4 * m) u m)) (fun x => 10 - x.1.toNatClampNeg) ?_ n _ ⟨0, by omega, rfl, Same.rfl, fun m hm => absurd hm (by omega)⟩ (by show 10 - _ < n; omega)
  rintro ⟨j', x⟩ ⟨j, hj, r1, r2, r3⟩
  replace r1 : j' = o3 j := r1
  replace r2 : Same WcS h x := r2
  replace r3 : ∀ m, m < j → Whl x (3 + 4 * m) u m ∧ (m < u 66 → Spd x (3 + 4 * m) u m) := r3
  subst r1
  have x27 : x.1 27 = h.1 27 := (r2 27 (by unfold WcS; omega)).1
  by_cases e : j = 6
  · refine Or.inr ⟨aw_sI (aw_sI (aw_sI x 1 1 (o3 (u 66))) 1 2 (o3 (u 67))) 1 3 (o3 (u 68)), ?_, ?_, ?_⟩
    · unfold BX4_become_a_2
      rw [if_pos (show (6 : Int32) ≤ o3 j by rw [e]; exact Int32.le_refl _)]
      simp (disch := omega) only [sI_ne, x27, w1, w2, w3]
    · have sm : Same (fun q => q = 1) x (aw_sI (aw_sI (aw_sI x 1 1 (o3 (u 66))) 1 2 (o3 (u 67))) 1 3 (o3 (u 68))) := ((Same.sI (S := fun q => q = 1) rfl).trans (Same.sI (S := fun q => q = 1) rfl)).trans (Same.sI (S := fun q => q = 1) rfl)
      refine ⟨by simp (disch := omega) only [sI_nk, sI_eq], by simp (disch := omega) only [sI_nk, sI_eq], by rw [sI_eq], fun m hm => ?_⟩
      obtain ⟨a, b⟩ := r3 m (by omega)
      exact ⟨a.fr sm (fun i hi => by omega), fun hv => (b hv).fr sm (by omega)⟩
    · exact ((r2.trans (Same.sI (Or.inl rfl))).trans (Same.sI (Or.inl rfl))).trans (Same.sI (Or.inl rfl))
  · obtain ⟨a, b⟩ := w4 j (by omega)
    have ax : Whl x (29 + 4 * j) u j := a.fr r2 (fun i hi => by unfold WcS; omega)
    obtain ⟨H, g1, g2, g3, g4⟩ := become_w (a := 3 + 4 * j) (by omega) ax
    have jb : aw_inb (o3 j) 6 = true := (o3_inb (by omega)).mpr (by omega)
    refine Or.inl ⟨(o3 (j + 1), H), ?_, ⟨j + 1, by omega, rfl, r2.trans (g2.mono (fun q hq => by unfold WcS; omega)), fun m hm => ?_⟩, ?_⟩
    · unfold BX4_become_a_2
      rw [if_neg (show ¬ (6 : Int32) ≤ o3 j by rw [n6, o3_le (by omega) (by omega)]; omega), if_pos jb, if_pos jb]
      simp only [o3_clamp (show j < 2147483648 by omega), g1, Option.bind_some]
      rw [n1, o3_add]
    · by_cases em : m = j
      · subst em
        exact ⟨g3, fun hv => g4 ((b hv).fr r2 (by unfold WcS; omega))⟩
      · obtain ⟨c, d⟩ := r3 m (by omega)
        exact ⟨c.fr g2 (fun i hi => by omega), fun hv => (d hv).fr g2 (by omega)⟩
    · show 10 - (o3 (j + 1)).toNatClampNeg < 10 - (o3 j).toNatClampNeg
      rw [o3_clamp (by omega), o3_clamp (by omega)]; omega
def KeS (q : Nat) : Prop := q = 27 ∨ (29 ≤ q ∧ q < 53)
theorem becomeB {n : Nat} {h : aw_H} {u : St} (w : Wks h 1 3 u) (hn : 300 ≤ n) : ∃ H, FX4_become_b n h = some H ∧ Wks H 27 29 u ∧ Same KeS h H := by
  obtain ⟨w1, w2, w3, w4⟩ := w
  unfold FX4_become_b
  refine lp_wp (fun x => ∃ j, j ≤ 6 ∧ x.1 = o3 j ∧ Same KeS h x.2 ∧ ∀ m, m < j → Whl x.2 (29 + 4 * m) u m ∧ (m < u 66 → Spd x.2 (29 + 4 * m) u m)) (fun x => 10 - x.1.toNatClampNeg) ?_ n _ ⟨0, by omega, rfl, Same.rfl, fun m hm => absurd hm (by omega)⟩ (by show 10 - _ < n; omega)
  rintro ⟨j', x⟩ ⟨j, hj, r1, r2, r3⟩
  replace r1 : j' = o3 j := r1
  replace r2 : Same KeS h x := r2
  replace r3 : ∀ m, m < j → Whl x (29 + 4 * m) u m ∧ (m < u 66 → Spd x (29 + 4 * m) u m) := r3
  subst r1
  have x27 : x.1 1 = h.1 1 := (r2 1 (by unfold KeS; omega)).1
  by_cases e : j = 6
  · refine Or.inr ⟨aw_sI (aw_sI (aw_sI x 27 1 (o3 (u 66))) 27 2 (o3 (u 67))) 27 3 (o3 (u 68)), ?_, ?_, ?_⟩
    · unfold BX4_become_b_2
      rw [if_pos (show (6 : Int32) ≤ o3 j by rw [e]; exact Int32.le_refl _)]
      simp (disch := omega) only [sI_ne, x27, w1, w2, w3]
    · have sm : Same (fun q => q = 27) x (aw_sI (aw_sI (aw_sI x 27 1 (o3 (u 66))) 27 2 (o3 (u 67))) 27 3 (o3 (u 68))) := ((Same.sI (S := fun q => q = 27) rfl).trans (Same.sI (S := fun q => q = 27) rfl)).trans (Same.sI (S := fun q => q = 27) rfl)
      refine ⟨by simp (disch := omega) only [sI_nk, sI_eq], by simp (disch := omega) only [sI_nk, sI_eq], by rw [sI_eq], fun m hm => ?_⟩
      obtain ⟨a, b⟩ := r3 m (by omega)
      exact ⟨a.fr sm (fun i hi => by omega), fun hv => (b hv).fr sm (by omega)⟩
    · exact ((r2.trans (Same.sI (Or.inl rfl))).trans (Same.sI (Or.inl rfl))).trans (Same.sI (Or.inl rfl))
  · obtain ⟨a, b⟩ := w4 j (by omega)
    have ax : Whl x (3 + 4 * j) u j := a.fr r2 (fun i hi => by unfold KeS; omega)
    obtain ⟨H, g1, g2, g3, g4⟩ := become_w (a := 29 + 4 * j) (by omega) ax
    have jb : aw_inb (o3 j) 6 = true := (o3_inb (by omega)).mpr (by omega)
    refine Or.inl ⟨(o3 (j + 1), H), ?_, ⟨j + 1, by omega, rfl, r2.trans (g2.mono (fun q hq => by unfold KeS; omega)), fun m hm => ?_⟩, ?_⟩
    · unfold BX4_become_b_2
      rw [if_neg (show ¬ (6 : Int32) ≤ o3 j by rw [n6, o3_le (by omega) (by omega)]; omega), if_pos jb, if_pos jb]
      simp only [o3_clamp (show j < 2147483648 by omega), g1, Option.bind_some]
      rw [n1, o3_add]
    · by_cases em : m = j
      · subst em
        exact ⟨g3, fun hv => g4 ((b hv).fr r2 (by unfold KeS; omega))⟩
      · obtain ⟨c, d⟩ := r3 m (by omega)
        exact ⟨c.fr g2 (fun i hi => by omega), fun hv => (d hv).fr g2 (by omega)⟩
    · show 10 - (o3 (j + 1)).toNatClampNeg < 10 - (o3 j).toNatClampNeg
      rw [o3_clamp (by omega), o3_clamp (by omega)]; omega
theorem c_image {n : Nat} {h : aw_H} (k : Rel h) (hn : 300 ≤ n) : Sim (FX5_image n h) FX6_image := by
  obtain ⟨v, ok, w, md⟩ := k.1
  obtain ⟨H, g1, g2, g3⟩ := becomeB (n := n) w hn
  obtain ⟨H1, hH1⟩ : ∃ H1, H1 = aw_sI H 0 2 1 := ⟨_, rfl⟩
  have s1 : Same (fun q => KeS q ∨ q = 0) h H1 := by
    rw [hH1]
    exact (g3.mono (fun q hq => Or.inl hq)).trans (Same.sI (Or.inr rfl))
  obtain ⟨H2, hH2⟩ : ∃ H2, H2 = aw_sI (aw_cI H1 72 73 0 0 69) 71 2 1 := ⟨_, rfl⟩
  have s2 : Same (fun q => q = 73 ∨ q = 71) H1 H2 := by
    rw [hH2]
    exact (Same.cI (Or.inl rfl)).trans (Same.sI (Or.inr rfl))
  have s3 : Same (fun q => KeS q ∨ q = 0 ∨ q = 73 ∨ q = 71) h H2 := (s1.mono (fun q hq => by rcases hq with q | q; exact Or.inl q; exact Or.inr (Or.inl q))).trans (s2.mono (fun q hq => Or.inr (Or.inr hq)))
  refine ⟨o3 (v 66), H1, H2, ?_, ?_, ?_⟩
  · unfold FX5_image
    rw [g1]
    simp only [Option.bind_some]
    rw [← hH1, (s1 1 (by unfold KeS; omega)).1, w.1]
  · unfold FX6_image
    rw [show (0 : Int32).toNatClampNeg = 0 from rfl, show (69 : Int32).toNatClampNeg = 69 from rfl, ← hH2, (s3 72 (by unfold KeS; omega)).1, md 66 (by omega)]
  · have e71 : ∀ q, q ≠ 2 → H2.1 71 q = h.1 71 q := fun q hq => by
      rw [hH2, sI_nk hq, cI_ne (by omega), (s1 71 (by unfold KeS; omega)).1]
    refine ⟨⟨v, ok, w.fr s3 (by unfold KeS; omega) (fun q q1 q2 => by unfold KeS; omega), md.fr s3 (by unfold KeS; omega)⟩, Or.inr ⟨?_, ?_, v, ok, ?_, fun q hq => ?_⟩, k.2.2.1.fr s3 ?_ ?_ ?_ ?_, k.2.2.2.fr s3 ?_ ?_ ?_ ?_⟩
    · rw [(s2 0 (by omega)).1, hH1, sI_eq]
    · rw [hH2, sI_eq]
    · have : Wks H1 27 29 v := g2.fr (S := fun q => q = 0) (by rw [hH1]; exact Same.sI rfl) (by omega) (fun q q1 q2 => by omega)
      exact this.fr s2 (by omega) (fun q q1 q2 => by omega)
    · rw [hH2, sI_ne (by omega), cI_in hq, (s1 72 (by unfold KeS; omega)).1]
      exact md q hq
    · intro q q1 q2; unfold KeS; omega
    · unfold KeS; omega
    · unfold KeS; omega
    · unfold KeS; omega
    · unfold KeS; omega
    · unfold KeS; omega
    · rw [(s3 54 (by unfold KeS; omega)).1]
    · exact e71 12 (by omega)
theorem c_back {n : Nat} {h : aw_H} (k : Rel h) (hn : 300 ≤ n) : Sim (FX5_back n h) FX6_back := by
  obtain ⟨v, ok, w, md⟩ := k.1
  rcases k.2.1 with ⟨i1, i2⟩ | ⟨i1, i2, u, i3, i4, i5⟩
  · exact ⟨-3, h, h, by simp only [FX5_back, i1, if_true], by simp only [FX6_back, i2, if_true], k⟩
  · obtain ⟨H, g1, g2, g3⟩ := becomeA (n := n) i4 hn
    have s1 : Same (fun q => q = 72) H (aw_cI H 73 72 0 0 69) := Same.cI rfl
    refine ⟨o3 (u 66), H, aw_cI H 73 72 0 0 69, ?_, ?_, ?_⟩
    · unfold FX5_back
      rw [if_neg (show ¬ h.1 0 2 = 0 by rw [i1]; decide), g1]
      simp only [Option.bind_some]
      rw [g2.1]
    · unfold FX6_back
      rw [if_neg (show ¬ H.1 71 2 = 0 by rw [(g3 71 (by unfold WcS; omega)).1, i2]; decide), show (0 : Int32).toNatClampNeg = 0 from rfl, show (69 : Int32).toNatClampNeg = 69 from rfl, cI_in (by omega), (g3 73 (by unfold WcS; omega)).1, i5 66 (by omega)]
    · refine k.works ((g3.mono (fun q hq => ?_)).trans (s1.mono (fun q hq => ?_))) u i3 (g2.fr s1 (by omega) (fun q q1 q2 => by omega)) (fun q hq => ?_)
      · unfold WcS at hq; unfold WrkS; omega
      · unfold WrkS; omega
      · rw [cI_in hq, (g3 73 (by unfold WcS; omega)).1]
        exact i5 q hq

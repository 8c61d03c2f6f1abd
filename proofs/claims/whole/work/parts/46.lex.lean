/-! feed; bytes and tokens -/
theorem byte_g (a : Int32) : (FX5_isByte a = 0 ∧ FX6_isByte a = 0) ∨ (∃ x : Nat, a = o3 x ∧ x ≤ 255 ∧ ¬ FX5_isByte a = 0 ∧ ¬ FX6_isByte a = 0) := by
  rcases rng a 0 255 0 255 0 255 rfl rfl rfl rfl (by omega) (by omega) with ⟨f1, f2, -⟩ | ⟨x, c1, -, c3, c4, c5⟩
  · exact Or.inl ⟨f1, f2⟩
  · exact Or.inr ⟨x, c1, c3, c4, c5⟩
def fdI (a b c d e : Int32) (j : Nat) : Int32 := if j = 0 then a else if j = 1 then b else if j = 2 then c else if j = 3 then d else e
theorem c_feed {n : Nat} {h : aw_H} (k : Rel h) (hn : 300 ≤ n) (a1 a2 a3 a4 a5 a6 : Int32) : Sim (FX5_feed n a1 a2 a3 a4 a5 a6 h) (FX6_feed n a1 a2 a3 a4 a5 a6) := by
  rcases rng a1 1 5 1 5 1 5 rfl rfl rfl rfl (by omega) (by omega) with ⟨f1, f2, -⟩ | ⟨N, c1, c2, c3, c4, c5⟩
  · exact ⟨-2, h, h, by simp only [FX5_feed, f1, if_true], by simp only [FX6_feed, f2, if_true], k⟩
  rcases byte_g a2 with ⟨f1, f2⟩ | ⟨x2, d1, d2, d3, d4⟩
  · exact ⟨-2, h, h, by simp only [FX5_feed, c4, f1, if_true, if_false], by simp only [FX6_feed, c5, f2, if_true, if_false], k⟩
  rcases byte_g a3 with ⟨f1, f2⟩ | ⟨x3, e1, e2, e3, e4⟩
  · exact ⟨-2, h, h, by simp only [FX5_feed, c4, d3, f1, if_true, if_false], by simp only [FX6_feed, c5, d4, f2, if_true, if_false], k⟩
  rcases byte_g a4 with ⟨f1, f2⟩ | ⟨x4, g1, g2, g3, g4⟩
  · exact ⟨-2, h, h, by simp only [FX5_feed, c4, d3, e3, f1, if_true, if_false], by simp only [FX6_feed, c5, d4, e4, f2, if_true, if_false], k⟩
  rcases byte_g a5 with ⟨f1, f2⟩ | ⟨x5, i1, i2, i3, i4⟩
  · exact ⟨-2, h, h, by simp only [FX5_feed, c4, d3, e3, g3, f1, if_true, if_false], by simp only [FX6_feed, c5, d4, e4, g4, f2, if_true, if_false], k⟩
  rcases byte_g a6 with ⟨f1, f2⟩ | ⟨x6, j1, j2, j3, j4⟩
  · exact ⟨-2, h, h, by simp only [FX5_feed, c4, d3, e3, g3, i3, f1, if_true, if_false], by simp only [FX6_feed, c5, d4, e4, g4, i4, f2, if_true, if_false], k⟩
  subst c1
  obtain ⟨z, z1, z2, z3, z4⟩ := k.2.2.2
  by_cases hz : z + N ≤ 60
  · have q5 : h.1 54 1 + o3 N ≤ 60 := by rw [z2, o3_add, n60, o3_le (by omega) (by omega)]; exact hz
    have fdb : ∀ j, ∃ x : Nat, x ≤ 255 ∧ fdI a2 a3 a4 a5 a6 j = o3 x := fun j => by
      unfold fdI
      split
      · exact ⟨x2, d2, d1⟩
      · split
        · exact ⟨x3, e2, e1⟩
        · split
          · exact ⟨x4, g2, g1⟩
          · split
            · exact ⟨x5, i2, i1⟩
            · exact ⟨x6, j2, j1⟩
    have s5 : ∃ q, aw_loop (BX5_feed_70 (o3 N) a2 a3 a4 a5 a6) n (0, h) = some q ∧ (q.1 = o3 (z + N) ∧ Same (fun q => q = 54 ∨ q = 55) h q.2 ∧ q.2.1 54 1 = o3 (z + N) ∧ ∀ b, q.2.1 55 b = if z ≤ b ∧ b < z + N then fdI a2 a3 a4 a5 a6 (b - z) else h.1 55 b) := by
      refine lp_wp (fun u => ∃ j, j ≤ N ∧ u.1 = o3 j ∧ Same (fun q => q = 54 ∨ q = 55) h u.2 ∧ u.2.1 54 1 = o3 (z + j) ∧ ∀ b, u.2.1 55 b = if z ≤ b ∧ b < z + j then fdI a2 a3 a4 a5 a6 (b - z) else h.1 55 b) (fun u => 10 - u.1.toNatClampNeg) ?_ n _ ⟨0, by omega, rfl, Same.rfl, z2, fun b => by rw [if_neg (by omega)]⟩ (by show 10 - _ < n; omega)
      rintro ⟨j', u⟩ ⟨j, hj, r1, r2, r3, r4⟩
      replace r1 : j' = o3 j := r1
      replace r2 : Same (fun q => q = 54 ∨ q = 55) h u := r2
      replace r3 : u.1 54 1 = o3 (z + j) := r3
      replace r4 : ∀ b, u.1 55 b = if z ≤ b ∧ b < z + j then fdI a2 a3 a4 a5 a6 (b - z) else h.1 55 b := r4
      subst r1
      by_cases e : j = N
      · refine Or.inr ⟨(o3 (z + N), u), ?_, rfl, r2, by rw [← e]; exact r3, by rw [← e]; exact r4⟩
        unfold BX5_feed_70
        rw [if_pos (show o3 N ≤ o3 j by rw [e]; exact Int32.le_refl _)]
        simp only [r3, e]
      · have ad : ∀ x, FX2_addByte x u = some (aw_sI (aw_sI u 55 (z + j) x) 54 1 (o3 (z + j + 1))) := fun x => by
          unfold FX2_addByte
          rw [r3, if_neg (show ¬ (60 : Int32) ≤ o3 (z + j) by rw [n60, o3_le (by omega) (by omega)]; omega), if_pos ((o3_inb (by omega)).mpr (by omega)), o3_clamp (by omega), sI_ne (by omega), r3, n1, o3_add]
        refine Or.inl ⟨(o3 (j + 1), aw_sI (aw_sI u 55 (z + j) (fdI a2 a3 a4 a5 a6 j)) 54 1 (o3 (z + j + 1))), ?_, ⟨j + 1, by omega, rfl, (r2.trans (Same.sI (Or.inr rfl))).trans (Same.sI (Or.inl rfl)), sI_eq, fun b => ?_⟩, ?_⟩
        · unfold BX5_feed_70
          rw [if_neg (show ¬ o3 N ≤ o3 j by rw [o3_le (by omega) (by omega)]; omega)]
          simp only [ad, Option.bind_some]
          rw [← o3_add]
          unfold fdI
          rcases (show j = 0 ∨ j = 1 ∨ j = 2 ∨ j = 3 ∨ j = 4 by omega) with rfl | rfl | rfl | rfl | rfl <;> rfl
        · show (aw_sI (aw_sI u 55 (z + j) (fdI a2 a3 a4 a5 a6 j)) 54 1 (o3 (z + j + 1))).1 55 b = _
          rw [sI_ne (by omega)]
          by_cases eb : b = z + j
          · rw [eb, sI_eq, if_pos (by omega), show z + j - z = j by omega]
          · rw [sI_nk eb, r4 b]
            by_cases eb2 : z ≤ b ∧ b < z + j
            · rw [if_pos eb2, if_pos (by omega)]
            · rw [if_neg eb2, if_neg (by omega)]
        · show 10 - (o3 (j + 1)).toNatClampNeg < 10 - (o3 j).toNatClampNeg
          rw [o3_clamp (by omega), o3_clamp (by omega)]; omega
    obtain ⟨q, p1, p2, p3, p4, p5⟩ := s5
    have s6 : ∃ r, aw_loop (BX6_feed_70 (o3 N) a2 a3 a4 a5 a6) n (0, q.2) = some r ∧ (r.1 = o3 (z + N) ∧ Same (fun q => q = 71 ∨ q = 79) q.2 r.2 ∧ r.2.1 71 12 = o3 (z + N) ∧ r.2.1 71 2 = q.2.1 71 2 ∧ ∀ b, r.2.1 79 b = if z ≤ b ∧ b < z + N then fdI a2 a3 a4 a5 a6 (b - z) else q.2.1 79 b) := by
      refine lp_wp (fun u => ∃ j, j ≤ N ∧ u.1 = o3 j ∧ Same (fun q => q = 71 ∨ q = 79) q.2 u.2 ∧ u.2.1 71 12 = o3 (z + j) ∧ u.2.1 71 2 = q.2.1 71 2 ∧ ∀ b, u.2.1 79 b = if z ≤ b ∧ b < z + j then fdI a2 a3 a4 a5 a6 (b - z) else q.2.1 79 b) (fun u => 10 - u.1.toNatClampNeg) ?_ n _ ⟨0, by omega, rfl, Same.rfl, by show q.2.1 71 12 = _; rw [(p3 71 (by omega)).1]; exact z3, rfl, fun b => by rw [if_neg (by omega)]⟩ (by show 10 - _ < n; omega)
      rintro ⟨j', u⟩ ⟨j, hj, r1, r2, r3, r3', r4⟩
      replace r1 : j' = o3 j := r1
      replace r2 : Same (fun q => q = 71 ∨ q = 79) q.2 u := r2
      replace r3 : u.1 71 12 = o3 (z + j) := r3
      replace r3' : u.1 71 2 = q.2.1 71 2 := r3'
      replace r4 : ∀ b, u.1 79 b = if z ≤ b ∧ b < z + j then fdI a2 a3 a4 a5 a6 (b - z) else q.2.1 79 b := r4
      subst r1
      by_cases e : j = N
      · refine Or.inr ⟨(o3 (z + N), u), ?_, rfl, r2, by rw [← e]; exact r3, r3', by rw [← e]; exact r4⟩
        unfold BX6_feed_70
        rw [if_pos (show o3 N ≤ o3 j by rw [e]; exact Int32.le_refl _)]
        simp only [r3, e]
      · have ib : aw_inb (u.1 71 12) 60 = true := by rw [r3]; exact (o3_inb (by omega)).mpr (by omega)
        have ic : (u.1 71 12).toNatClampNeg = z + j := by rw [r3]; exact o3_clamp (by omega)
        have er : ∀ x, (aw_sI u 79 (z + j) x).1 71 12 + 1 = o3 (z + j + 1) := fun x => by rw [sI_ne (by omega), r3, n1, o3_add]
        refine Or.inl ⟨(o3 (j + 1), aw_sI (aw_sI u 79 (z + j) (fdI a2 a3 a4 a5 a6 j)) 71 12 (o3 (z + j + 1))), ?_, ⟨j + 1, by omega, rfl, (r2.trans (Same.sI (Or.inr rfl))).trans (Same.sI (Or.inl rfl)), sI_eq, ?_, fun b => ?_⟩, ?_⟩
        · unfold BX6_feed_70
          rw [if_neg (show ¬ o3 N ≤ o3 j by rw [o3_le (by omega) (by omega)]; omega)]
          simp only [ib, ic, er, if_true]
          rw [← o3_add]
          unfold fdI
          rcases (show j = 0 ∨ j = 1 ∨ j = 2 ∨ j = 3 ∨ j = 4 by omega) with rfl | rfl | rfl | rfl | rfl <;> rfl
        · show (aw_sI (aw_sI u 79 (z + j) (fdI a2 a3 a4 a5 a6 j)) 71 12 (o3 (z + j + 1))).1 71 2 = _
          rw [sI_nk (by omega), sI_ne (by omega)]; exact r3'
        · show (aw_sI (aw_sI u 79 (z + j) (fdI a2 a3 a4 a5 a6 j)) 71 12 (o3 (z + j + 1))).1 79 b = _
          rw [sI_ne (by omega)]
          by_cases eb : b = z + j
          · rw [eb, sI_eq, if_pos (by omega), show z + j - z = j by omega]
          · rw [sI_nk eb, r4 b]
            by_cases eb2 : z ≤ b ∧ b < z + j
            · rw [if_pos eb2, if_pos (by omega)]
            · rw [if_neg eb2, if_neg (by omega)]
        · show 10 - (o3 (j + 1)).toNatClampNeg < 10 - (o3 j).toNatClampNeg
          rw [o3_clamp (by omega), o3_clamp (by omega)]; omega
    obtain ⟨r, u1, u2, u3, u4, u5, u6⟩ := s6
    have q6 : q.2.1 71 12 + o3 N ≤ 60 := by rw [(p3 71 (by omega)).1, z3, o3_add, n60, o3_le (by omega) (by omega)]; exact hz
    have sA : Same (fun q => q = 54 ∨ q = 55 ∨ q = 71 ∨ q = 79) h r.2 := (p3.mono (fun q hq => by omega)).trans (u3.mono (fun q hq => by omega))
    refine ⟨q.1, q.2, r.2, ?_, ?_, ?_⟩
    · simp only [FX5_feed, c4, d3, e3, g3, i3, j3, q5, if_true, if_false]
      exact p1
    · simp only [FX6_feed, c5, d4, e4, g4, i4, j4, q6, if_true, if_false]
      rw [u1, p2, ← u2]
    · obtain ⟨⟨v, k1, k2, k3⟩, k4, k5, -⟩ := k
      refine ⟨⟨v, k1, k2.fr sA (by omega) (fun q q1 q2 => by omega), k3.fr sA (by omega)⟩, k4.fr sA (by omega) (by omega) (fun q q1 q2 => by omega) ?_, k5.fr sA (fun q q1 q2 => by omega) (by omega) (by omega) (by omega), z + N, hz, ?_, u4, fun b hb => ?_⟩
      · rw [u5, (p3 71 (by omega)).1]
      · rw [(u3 54 (by omega)).1]; exact p4
      · have y1 : r.2.1 55 b = q.2.1 55 b := by rw [(u3 55 (by omega)).1]
        have y2 : q.2.1 79 b = h.1 79 b := by rw [(p3 79 (by omega)).1]
        rw [y1, u6 b, p5 b, y2]
        obtain ⟨w1, w2⟩ := z4 b hb
        by_cases e : z ≤ b ∧ b < z + N
        · rw [if_pos e, if_pos e]
          exact ⟨rfl, fdb _⟩
        · rw [if_neg e, if_neg e]
          exact ⟨w1, w2⟩
  · have q5 : ¬ h.1 54 1 + o3 N ≤ 60 := by rw [z2, o3_add, n60, o3_le (by omega) (by omega)]; exact hz
    have q6 : ¬ h.1 71 12 + o3 N ≤ 60 := by rw [z3, o3_add, n60, o3_le (by omega) (by omega)]; exact hz
    exact ⟨-4, h, h, by simp only [FX5_feed, c4, d3, e3, g3, i3, j3, q5, if_false], by simp only [FX6_feed, c5, d4, e4, g4, i4, j4, q6, if_false], k⟩
/-! what a byte is -/
def byV (B : Nat → Nat) (Z k : Nat) : Int32 := if k < Z then o3 (B k) else -1
def sV (B : Nat → Nat) (Z k : Nat) : Nat := if Z ≤ k then 0 else if B k = 32 then 1 else if B k = 10 then 1 else if B k = 59 then 4 else if 48 ≤ B k ∧ B k ≤ 57 then 3 else if 97 ≤ B k ∧ B k ≤ 122 then 2 else 5
def Tp (h : aw_H) (B : Nat → Nat) (Z : Nat) : Prop := h.1 54 1 = o3 Z ∧ ∀ k, k < 60 → h.1 55 k = o3 (B k)
def Tm (h : aw_H) (B : Nat → Nat) (Z : Nat) : Prop := h.1 71 12 = o3 Z ∧ ∀ k, k < 60 → h.1 79 k = o3 (B k)
def Bok (B : Nat → Nat) (Z : Nat) : Prop := Z ≤ 60 ∧ ∀ k, k < 60 → B k ≤ 255
section LEX
variable {B : Nat → Nat} {Z : Nat} {h : aw_H}
theorem byte5 (bo : Bok B Z) (t : Tp h B Z) {k : Nat} (hk : k < 1000) : FX2_byteAt (o3 k) h = some (byV B Z k) := by
  have := bo.1
  unfold FX2_byteAt byV
  rw [if_neg (show ¬ o3 k < 0 by rw [n0, o3_lt (by omega) (by omega)]; omega), t.1]
  by_cases e : k < Z
  · rw [if_neg (by rw [o3_le (by omega) (by omega)]; omega), if_pos ((o3_inb (by omega)).mpr (by omega)), o3_clamp (by omega), t.2 k (by omega), if_pos e]
  · rw [if_pos (by rw [o3_le (by omega) (by omega)]; omega), if_neg e]
theorem byte6 (bo : Bok B Z) (t : Tm h B Z) {k : Nat} (hk : k < 1000) : FX6_byteAt (o3 k) h = some (byV B Z k) := by
  have := bo.1
  unfold FX6_byteAt byV
  rw [t.1]
  by_cases e : k < Z
  · rw [if_neg (by rw [o3_le (by omega) (by omega)]; omega), if_pos ((o3_inb (by omega)).mpr (by omega)), o3_clamp (by omega), t.2 k (by omega), if_pos e]
  · rw [if_pos (by rw [o3_le (by omega) (by omega)]; omega), if_neg e]
theorem by_eq (bo : Bok B Z) {k c : Nat} (hc : c < 1000) : (byV B Z k = o3 c) ↔ (k < Z ∧ B k = c) := by
  have := bo.1
  unfold byV
  by_cases e : k < Z
  · have := bo.2 k (by omega)
    rw [if_pos e, o3_eq (by omega) (by omega)]
    exact ⟨fun q => ⟨e, q⟩, fun q => q.2⟩
  · rw [if_neg e]
    exact ⟨fun q => absurd q.symm (o3_ne_neg1 (by omega)), fun q => absurd q.1 e⟩
theorem sort5 (bo : Bok B Z) (t : Tp h B Z) {k : Nat} (hk : k < 1000) : FX2_sortAt (o3 k) h = some (o3 (sV B Z k)) := by
  have hZ := bo.1
  unfold FX2_sortAt
  rw [byte5 bo t hk]
  simp only [Option.bind_some]
  unfold byV sV
  by_cases e : k < Z
  · have hb := bo.2 k (by omega)
    have w1 : (FX5_within (o3 (B k)) 48 57 = 0) ↔ ¬ (48 ≤ B k ∧ B k ≤ 57) := within_o3 (lo := 48) (hi := 57) (by omega) (by omega) (by omega)
    have w2 : (FX5_within (o3 (B k)) 97 122 = 0) ↔ ¬ (97 ≤ B k ∧ B k ≤ 122) := within_o3 (lo := 97) (hi := 122) (by omega) (by omega) (by omega)
    have e1 : (o3 (B k) = 32) ↔ B k = 32 := o3_eq (b := 32) (by omega) (by omega)
    have e2 : (o3 (B k) = 10) ↔ B k = 10 := o3_eq (b := 10) (by omega) (by omega)
    have e3 : (o3 (B k) = 59) ↔ B k = 59 := o3_eq (b := 59) (by omega) (by omega)
    rw [if_pos e, if_neg (o3_ne_neg1 (by omega)), if_neg (show ¬ Z ≤ k by omega)]
    simp only [w1, w2, e1, e2, e3]
    by_cases c1 : B k = 32
    · rw [if_pos c1, if_pos c1]; rfl
    rw [if_neg c1, if_neg c1]
    by_cases c2 : B k = 10
    · rw [if_pos c2, if_pos c2]; rfl
    rw [if_neg c2, if_neg c2]
    by_cases c3 : B k = 59
    · rw [if_pos c3, if_pos c3]; rfl
    rw [if_neg c3, if_neg c3]
    by_cases c4 : 48 ≤ B k ∧ B k ≤ 57
    · rw [if_neg (fun q => q c4), if_pos c4]; rfl
    rw [if_pos c4, if_neg c4]
    by_cases c5 : 97 ≤ B k ∧ B k ≤ 122
    · rw [if_neg (fun q => q c5), if_pos c5]; rfl
    rw [if_pos c5, if_neg c5]; rfl
  · rw [if_neg e, if_pos rfl, if_pos (show Z ≤ k by omega)]; rfl
theorem sV_le (k : Nat) : sV B Z k ≤ 5 := by
  unfold sV
  repeat' split
  all_goals omega
theorem digit6 (bo : Bok B Z) {k : Nat} : (FX6_isDigit (byV B Z k) = 0) ↔ ¬ sV B Z k = 3 := by
  have hZ := bo.1
  unfold FX6_isDigit byV sV
  by_cases e : k < Z
  · have hb := bo.2 k (by omega)
    rw [if_pos e, if_neg (show ¬ Z ≤ k by omega)]
    have e1 : (o3 (B k) < 48) ↔ B k < 48 := o3_lt (b := 48) (by omega) (by omega)
    have e2 : (57 < o3 (B k)) ↔ 57 < B k := o3_lt (a := 57) (by omega) (by omega)
    simp only [e1, e2]
    repeat' split
    all_goals first | (simp; done) | (simp; omega) | omega
  · rw [if_neg e, if_pos (show Z ≤ k by omega)]
    decide
theorem letter6 (bo : Bok B Z) {k : Nat} : (FX6_isLetter (byV B Z k) = 0) ↔ ¬ sV B Z k = 2 := by
  have hZ := bo.1
  unfold FX6_isLetter byV sV
  by_cases e : k < Z
  · have hb := bo.2 k (by omega)
    rw [if_pos e, if_neg (show ¬ Z ≤ k by omega)]
    have e1 : (o3 (B k) < 97) ↔ B k < 97 := o3_lt (b := 97) (by omega) (by omega)
    have e2 : (122 < o3 (B k)) ↔ 122 < B k := o3_lt (a := 122) (by omega) (by omega)
    simp only [e1, e2]
    repeat' split
    all_goals first | (simp; done) | (simp; omega) | omega
  · rw [if_neg e, if_pos (show Z ≤ k by omega)]
    decide
theorem blank6 (bo : Bok B Z) {k : Nat} : (byV B Z k = 32 ∨ byV B Z k = 10) ↔ sV B Z k = 1 := by
  have hZ := bo.1
  have e1 : (byV B Z k = 32) ↔ (k < Z ∧ B k = 32) := by_eq bo (c := 32) (by omega)
  have e2 : (byV B Z k = 10) ↔ (k < Z ∧ B k = 10) := by_eq bo (c := 10) (by omega)
  rw [e1, e2]
  unfold sV
  repeat' split
  all_goals first | omega | (simp; omega)
/-! runs of bytes of one sort -/
def bhV (B : Nat → Nat) (Z s : Nat) : Nat → Nat → Nat
  | 0, k => k
  | m + 1, k => if k < Z ∧ sV B Z k = s then bhV B Z s m (k + 1) else k
def bh (B : Nat → Nat) (Z s k : Nat) : Nat := bhV B Z s (Z - k) k
theorem bh_step {s k : Nat} (hk : k < Z) (hs : sV B Z k = s) : bh B Z s k = bh B Z s (k + 1) := by
  unfold bh
  rw [show Z - k = Z - (k + 1) + 1 by omega, bhV, if_pos ⟨hk, hs⟩]
theorem bh_stop {s k : Nat} (h : ¬ (k < Z ∧ sV B Z k = s)) : bh B Z s k = k := by
  unfold bh
  cases Z - k with
  | zero => rfl
  | succ m => rw [bhV, if_neg h]
theorem bh_prop {s : Nat} : ∀ (m k : Nat), Z - k ≤ m → k ≤ Z → k ≤ bh B Z s k ∧ bh B Z s k ≤ Z ∧ (∀ j, k ≤ j → j < bh B Z s k → sV B Z j = s) ∧ ¬ (bh B Z s k < Z ∧ sV B Z (bh B Z s k) = s)
  | 0, k, hm, hk => by
    have hn : ¬ (k < Z ∧ sV B Z k = s) := fun q => by omega
    rw [bh_stop hn]
    exact ⟨Nat.le_refl _, hk, fun j h1 h2 => by omega, hn⟩
  | m + 1, k, hm, hk => by
    by_cases hn : k < Z ∧ sV B Z k = s
    · obtain ⟨a, b, c, d⟩ := bh_prop (s := s) m (k + 1) (by omega) (by omega)
      rw [bh_step hn.1 hn.2]
      refine ⟨by omega, b, fun j h1 h2 => ?_, d⟩
      by_cases e : j = k
      · rw [e]; exact hn.2
      · exact c j (by omega) h2
    · rw [bh_stop hn]
      exact ⟨Nat.le_refl _, hk, fun j h1 h2 => by omega, hn⟩
theorem behind5 {n s k : Nat} (bo : Bok B Z) (t : Tp h B Z) (hk : k ≤ Z) (hs : s ≤ 5) (hn : 300 ≤ n) : FX2_behind n (o3 k) (o3 s) h = some (o3 (bh B Z s k)) := by
  have hZ := bo.1
  have key : ∃ q, aw_loop (BX2_behind_2 (o3 s) h) n (o3 k) = some q ∧ q = o3 (bh B Z s k) := by
    refine lp_wp (fun u => ∃ j, j ≤ Z ∧ u = o3 j ∧ bh B Z s j = bh B Z s k) (fun u => 100 - u.toNatClampNeg) ?_ n _ ⟨k, hk, rfl, rfl⟩ (by show 100 - _ < n; omega)
    rintro u ⟨j, hj, rfl, r⟩
    by_cases e : j = Z
    · refine Or.inr ⟨o3 j, ?_, ?_⟩
      · unfold BX2_behind_2
        rw [if_pos (show h.1 54 1 ≤ o3 j by rw [t.1, e]; exact Int32.le_refl _)]
      · rw [← r, bh_stop (fun q => by omega)]
    · have ev : BX2_behind_2 (o3 s) h (o3 j) = if sV B Z j = s then some (Sum.inl (o3 (j + 1))) else some (Sum.inr (o3 j)) := by
        have hs5 := sV_le (B := B) (Z := Z) j
        unfold BX2_behind_2
        rw [if_neg (show ¬ h.1 54 1 ≤ o3 j by rw [t.1, o3_le (by omega) (by omega)]; omega), sort5 bo t (by omega)]
        simp only [Option.bind_some, o3_eq (show sV B Z j < 2147483648 by omega) (show s < 2147483648 by omega)]
        rw [n1, o3_add]
      by_cases es : sV B Z j = s
      · refine Or.inl ⟨o3 (j + 1), by rw [ev, if_pos es], ⟨j + 1, by omega, rfl, by rw [← r, bh_step (by omega) es]⟩, ?_⟩
        show 100 - (o3 (j + 1)).toNatClampNeg < 100 - (o3 j).toNatClampNeg
        rw [o3_clamp (by omega), o3_clamp (by omega)]; omega
      · exact Or.inr ⟨o3 j, by rw [ev, if_neg es], by rw [← r, bh_stop (fun q => es q.2)]⟩
  obtain ⟨q, q1, q2⟩ := key
  rw [← q2]
  exact q1
end LEX

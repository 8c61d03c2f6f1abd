/-! numbers and clauses -/
def nvN (B : Nat → Nat) (fr : Nat) : Nat → Nat
  | 0 => 0
  | m + 1 => nvN B fr m * 10 + (B (fr + m) - 48)
def mnW (w : Nat) : Nat := [4, 3, 1, 2, 2].getD w 0
def numsV (B : Nat → Nat) (Z : Nat) : Nat → Nat → (List Nat × Nat) ⊕ Nat
  | 0, k => .inl ([], k)
  | m + 1, k => if sV B Z (frV B Z k) = 3 ∧ toV B Z k - frV B Z k ≤ 4 then (match numsV B Z m (toV B Z k) with
    | .inl q => .inl (nvN B (frV B Z k) (toV B Z k - frV B Z k) :: q.1, q.2)
    | .inr p => .inr p) else .inr (frV B Z k)
def clauV (B : Nat → Nat) (Z k : Nat) : ((Nat × List Nat) × Nat) ⊕ Nat :=
  if wdV B Z (frV B Z k) (enV B Z k) < 5 then (match numsV B Z (mnW (wdV B Z (frV B Z k) (enV B Z k))) (toV B Z k) with
    | .inl q => .inl ((wdV B Z (frV B Z k) (enV B Z k), q.1), q.2)
    | .inr p => .inr p) else .inr (frV B Z k)
def Sd (h : aw_H) (l : List Nat) : Prop := h.1 54 6 = o3 l.length ∧ ∀ j, j < l.length → h.1 56 j = o3 (l.getD j 0)
section CLA
variable {B : Nat → Nat} {Z : Nat}
theorem mn_b : ∀ w : Fin 5, FX5_numbersOf (o3 w.1) = some (o3 (mnW w.1)) ∧ FX6_manyOf (o3 w.1) = o3 (mnW w.1) ∧ 1 ≤ mnW w.1 ∧ mnW w.1 ≤ 4 := by decide
theorem dig_b {k : Nat} (hs : sV B Z k = 3) : k < Z ∧ 48 ≤ B k ∧ B k ≤ 57 := by
  unfold sV at hs
  repeat' split at hs
  all_goals omega
theorem nv_lt {fr : Nat} : ∀ m : Nat, (∀ j, j < m → 48 ≤ B (fr + j) ∧ B (fr + j) ≤ 57) → nvN B fr m < 10 ^ m
  | 0, _ => Nat.zero_lt_one
  | m + 1, hd => by
    have h1 := nv_lt m (fun j hj => hd j (by omega))
    have h2 := hd m (by omega)
    rw [nvN, Nat.pow_succ]
    omega
theorem nv_4 {fr m : Nat} (hm : m ≤ 4) (hd : ∀ j, j < m → 48 ≤ B (fr + j) ∧ B (fr + j) ≤ 57) : nvN B fr m ≤ 9999 := by
  have h1 := nv_lt m hd
  have h2 : 10 ^ m ≤ 10 ^ 4 := Nat.pow_le_pow_right (by omega) hm
  have h3 : (10 : Nat) ^ 4 = 10000 := by decide
  omega
theorem digs {k : Nat} (hk : k ≤ Z) (h3 : sV B Z (frV B Z k) = 3) : ∀ j, j < toV B Z k - frV B Z k → 48 ≤ B (frV B Z k + j) ∧ B (frV B Z k + j) ≤ 57 := fun j hj => by
  obtain ⟨p1, p2, p3, p4⟩ := to_prop (B := B) hk
  exact (dig_b ((p4 (by omega) (frV B Z k + j) (by omega) (by omega)).trans h3)).2
theorem nums_prop : ∀ (m k : Nat), k ≤ Z → match numsV B Z m k with
    | .inl q => k + m ≤ q.2 ∧ q.2 ≤ Z ∧ q.1.length = m ∧ ∀ j, q.1.getD j 0 ≤ 9999
    | .inr p => p ≤ Z
  | 0, k, hk => by
    rw [numsV]
    exact ⟨Nat.le_refl _, hk, rfl, fun j => by simp⟩
  | m + 1, k, hk => by
    obtain ⟨a1, a2, a3⟩ := fr_prop (B := B) hk
    obtain ⟨p1, p2, p3, p4⟩ := to_prop (B := B) hk
    rw [numsV]
    by_cases hc : sV B Z (frV B Z k) = 3 ∧ toV B Z k - frV B Z k ≤ 4
    · rw [if_pos hc]
      have ih := nums_prop m (toV B Z k) p2
      have := p3 (by omega)
      revert ih
      cases numsV B Z m (toV B Z k) with
      | inl q =>
        rintro ⟨b1, b2, b3, b4⟩
        refine ⟨by omega, b2, by simp [b3], fun j => ?_⟩
        cases j with
        | zero => exact nv_4 hc.2 (digs hk hc.1)
        | succ j => exact b4 j
      | inr p => exact fun b => b
    · rw [if_neg hc]
      exact a2
theorem numR5 {n : Nat} {h : aw_H} {k : Nat} (bo : Bok B Z) (t : Tp h B Z) (e3 : h.1 54 3 = o3 (frV B Z k)) (e4 : h.1 54 4 = o3 (toV B Z k)) (hk : k ≤ Z) (h3 : sV B Z (frV B Z k) = 3) (h4 : toV B Z k - frV B Z k ≤ 4) (hn : 300 ≤ n) : FX2_numberRead n h = some (o3 (nvN B (frV B Z k) (toV B Z k - frV B Z k))) := by
  have hZ := bo.1
  obtain ⟨p1, p2, p3, p4⟩ := to_prop (B := B) hk
  have dg := digs (B := B) hk h3
  have key := lp_some (B := BX2_numberRead_7 h) (q := o3 (nvN B (frV B Z k) (toV B Z k - frV B Z k))) (fun i => (o3 (nvN B (frV B Z k) i), o3 (frV B Z k + i))) (toV B Z k - frV B Z k) (fun i hi => by
    have db := dg i hi
    have nb := nv_4 (B := B) (fr := frV B Z k) (m := i) (by omega) (fun j hj => dg j (by omega))
    have bx := byte5 bo t (show frV B Z k + i < 1000 by omega)
    have bv : byV B Z (frV B Z k + i) = o3 (B (frV B Z k + i)) := by unfold byV; rw [if_pos (by omega)]
    unfold BX2_numberRead_7
    rw [e4, if_neg (show ¬ o3 (toV B Z k) ≤ o3 (frV B Z k + i) by rw [o3_le (by omega) (by omega)]; omega)]
    simp only [bx, bv, Option.bind_some]
    rw [n10, o3_mul, o3_add, show (48 : Int32) = o3 48 from rfl, o3_sub (by omega) (by omega), n1, o3_add, nvN, Nat.add_assoc (frV B Z k) i 1]
    congr 4
    omega) (by
    unfold BX2_numberRead_7
    rw [e4, if_pos (show o3 (toV B Z k) ≤ o3 (frV B Z k + (toV B Z k - frV B Z k)) by rw [o3_le (by omega) (by omega)]; omega)]) n 0 (by omega) (by omega)
  unfold FX2_numberRead
  rw [e3]
  exact key
theorem numH6 {n : Nat} {h : aw_H} {k : Nat} (bo : Bok B Z) (t : Tm h B Z) (e3 : h.1 71 13 = o3 (frV B Z k)) (e4 : h.1 71 14 = o3 (enV B Z k)) (hk : k ≤ Z) (hn : 300 ≤ n) : FX6_numberHere n h = some (if sV B Z (frV B Z k) = 3 ∧ toV B Z k - frV B Z k ≤ 4 then o3 (nvN B (frV B Z k) (toV B Z k - frV B Z k)) else -1) := by
  have hZ := bo.1
  obtain ⟨a1, a2, a3⟩ := fr_prop (B := B) hk
  obtain ⟨p1, p2, p3, p4⟩ := to_prop (B := B) hk
  unfold FX6_numberHere
  rw [e3, byte6 bo t (by omega)]
  simp only [Option.bind_some]
  by_cases h3 : sV B Z (frV B Z k) = 3
  · have en : enV B Z k = toV B Z k := by unfold enV; rw [if_pos (Or.inr h3)]
    have dg := digs (B := B) hk h3
    rw [if_neg (fun q => (digit6 bo).mp q h3), e4, en, o3_sub p1 (by omega)]
    by_cases h4 : toV B Z k - frV B Z k ≤ 4
    · rw [if_pos (show o3 (toV B Z k - frV B Z k) ≤ 4 by rw [n4, o3_le (by omega) (by omega)]; exact h4), if_pos ⟨h3, h4⟩]
      exact lp_some (B := BX6_numberHere_36 h) (q := o3 (nvN B (frV B Z k) (toV B Z k - frV B Z k))) (fun i => (o3 (nvN B (frV B Z k) i), o3 (frV B Z k + i))) (toV B Z k - frV B Z k) (fun i hi => by
        have db := dg i hi
        have nb := nv_4 (B := B) (fr := frV B Z k) (m := i) (by omega) (fun j hj => dg j (by omega))
        have bx := byte6 bo t (show frV B Z k + i < 1000 by omega)
        have bv : byV B Z (frV B Z k + i) = o3 (B (frV B Z k + i)) := by unfold byV; rw [if_pos (by omega)]
        unfold BX6_numberHere_36
        rw [e4, en, if_neg (show ¬ o3 (toV B Z k) ≤ o3 (frV B Z k + i) by rw [o3_le (by omega) (by omega)]; omega)]
        simp only [bx, bv, Option.bind_some]
        rw [n10, o3_mul, o3_add, show (48 : Int32) = o3 48 from rfl, o3_sub (by omega) (by omega), n1, o3_add, nvN, Nat.add_assoc (frV B Z k) i 1]
        congr 4
        omega) (by
        unfold BX6_numberHere_36
        rw [e4, en, if_pos (show o3 (toV B Z k) ≤ o3 (frV B Z k + (toV B Z k - frV B Z k)) by rw [o3_le (by omega) (by omega)]; omega)]) n 0 (by omega) (by omega)
    · rw [if_neg (show ¬ o3 (toV B Z k - frV B Z k) ≤ 4 by rw [n4, o3_le (by omega) (by omega)]; exact h4), if_neg (fun q => h4 q.2)]
  · rw [if_pos ((digit6 bo).mpr h3), if_neg (fun q => h3 q.1)]
theorem say5 {h : aw_H} {l : List Nat} {x : Nat} (s : Sd h l) (hl : l.length < 60) : ∃ H, FX2_say (o3 x) h = some H ∧ Sd H (l ++ [x]) ∧ Same (fun q => q = 54 ∨ q = 56) h H ∧ ∀ j, j ≠ 6 → H.1 54 j = h.1 54 j := by
  obtain ⟨s1, s2⟩ := s
  refine ⟨aw_sI (aw_sI h 56 l.length (o3 x)) 54 6 (o3 (l.length + 1)), ?_, ⟨?_, fun j hj => ?_⟩, (Same.sI (Or.inr rfl)).trans (Same.sI (Or.inl rfl)), fun j hj => by rw [sI_nk hj, sI_ne (by omega)]⟩
  · unfold FX2_say
    rw [s1, if_neg (show ¬ (60 : Int32) ≤ o3 l.length by rw [n60, o3_le (by omega) (by omega)]; omega), if_pos ((o3_inb (by omega)).mpr hl), o3_clamp (by omega), sI_ne (by omega), s1, n1, o3_add]
  · rw [sI_eq]; simp
  · rw [sI_ne (by omega)]
    have hj' : j < l.length + 1 := by simpa using hj
    by_cases e : j = l.length
    · rw [e, sI_eq, List.getD_eq_getElem?_getD, List.getElem?_append_right (Nat.le_refl _)]; simp
    · rw [sI_nk e, s2 j (by omega), List.getD_eq_getElem?_getD, List.getD_eq_getElem?_getD, List.getElem?_append_left (by omega)]
theorem Tp.fr {h H : aw_H} (t : Tp h B Z) (h1 : H.1 54 1 = h.1 54 1) (h2 : H.1 55 = h.1 55) : Tp H B Z := ⟨by rw [h1]; exact t.1, fun k hk => by rw [h2]; exact t.2 k hk⟩
theorem Tm.fr {h H : aw_H} (t : Tm h B Z) (h1 : H.1 71 12 = h.1 71 12) (h2 : H.1 79 = h.1 79) : Tm H B Z := ⟨by rw [h1]; exact t.1, fun k hk => by rw [h2]; exact t.2 k hk⟩
theorem Sd.fr {h H : aw_H} {l : List Nat} (s : Sd h l) (h1 : H.1 54 6 = h.1 54 6) (h2 : H.1 56 = h.1 56) : Sd H l := ⟨by rw [h1]; exact s.1, fun k hk => by rw [h2]; exact s.2 k hk⟩
/-- what the class has behind the numbers of a clause -/
def Nm5 (h0 H : aw_H) (l0 : List Nat) (fl : Int32) (r : (List Nat × Nat) ⊕ Nat) : Prop := match r with
  | .inl q => fl = 1 ∧ H.1 54 4 = o3 q.2 ∧ Sd H (l0 ++ q.1)
  | .inr p => fl = 0 ∧ H.1 54 3 = o3 p
theorem nums5 {n w : Nat} (bo : Bok B Z) (hw : w < 5) (hn : 300 ≤ n) : ∀ (m i k : Nat) (l0 : List Nat) (n1' : Nat) (h : aw_H), Tp h B Z → h.1 54 4 = o3 k → k ≤ Z → Sd h l0 → l0.length ≤ k → i + m = mnW w → m < n1' → ∃ (fl : Int32) (H : aw_H), aw_loop (BX2_readClause_39 n (o3 w)) n1' (o3 i, h) = some (fl, H) ∧ Same (fun q => q = 54 ∨ q = 56) h H ∧ Tp H B Z ∧ H.1 54 7 = h.1 54 7 ∧ Nm5 h H l0 fl (numsV B Z m k) := by
  have hZ := bo.1
  have mb := mn_b ⟨w, hw⟩
  have mb1 : FX5_numbersOf (o3 w) = some (o3 (mnW w)) := mb.1
  have mb4 : mnW w ≤ 4 := mb.2.2.2
  intro m
  induction m with
  | zero =>
    intro i k l0 n1' h t e4 hk s hl hi hm
    obtain ⟨n1', rfl⟩ : ∃ q, n1' = q + 1 := ⟨n1' - 1, by omega⟩
    refine ⟨1, h, ?_, Same.rfl, t, rfl, rfl, e4, by rw [List.append_nil]; exact s⟩
    rw [aw_loop, show BX2_readClause_39 n (o3 w) (o3 i, h) = some (Sum.inr (1, h)) by
      unfold BX2_readClause_39
      rw [mb1]
      simp only [Option.bind_some]
      rw [if_pos (show o3 (mnW w) ≤ o3 i by rw [o3_le (by omega) (by omega)]; omega)]]
  | succ m ih =>
    intro i k l0 n1' h t e4 hk s hl hi hm
    obtain ⟨n1', rfl⟩ : ∃ q, n1' = q + 1 := ⟨n1' - 1, by omega⟩
    obtain ⟨a1, a2, a3⟩ := fr_prop (B := B) hk
    obtain ⟨p1, p2, p3, p4⟩ := to_prop (B := B) hk
    obtain ⟨H, g1, g2, g3, g4, g5, g6, g7⟩ := next5 (n := n) bo t e4 hk hn
    have s1 : Sd H l0 := s.fr (g6 6 (by omega) (by omega) (by omega)) (g2 56 (by omega)).1
    have s5 := sV_le (B := B) (Z := Z) (frV B Z k)
    have sm : Same (fun q => q = 54 ∨ q = 56) h H := g2.mono (fun q hq => Or.inl hq)
    have c0 : ¬ o3 (mnW w) ≤ o3 i := by rw [o3_le (by omega) (by omega)]; omega
    by_cases h3 : sV B Z (frV B Z k) = 3
    · have e33 : o3 (sV B Z (frV B Z k)) = 3 := by rw [h3]; rfl
      have ed : H.1 54 4 - H.1 54 3 = o3 (toV B Z k - frV B Z k) := by rw [g4, g5, o3_sub p1 (by omega)]
      by_cases h4 : toV B Z k - frV B Z k ≤ 4
      · have e44 : o3 (toV B Z k - frV B Z k) ≤ 4 := by rw [n4, o3_le (by omega) (by omega)]; exact h4
        have hlt := p3 (by omega)
        obtain ⟨H2, y1, y2, y3, y4⟩ := say5 (x := nvN B (frV B Z k) (toV B Z k - frV B Z k)) s1 (by omega)
        have t2 : Tp H2 B Z := g7.fr (y4 1 (by omega)) (y3 55 (by omega)).1
        obtain ⟨fl, H3, z1, z2, z3, z4, z5⟩ := ih (i + 1) (toV B Z k) (l0 ++ [nvN B (frV B Z k) (toV B Z k - frV B Z k)]) n1' H2 t2 (by rw [y4 4 (by omega)]; exact g5) p2 y2 (by simp; omega) (by omega) (by omega)
        refine ⟨fl, H3, ?_, (sm.trans y3).trans z2, z3, ?_, ?_⟩
        · rw [aw_loop, show BX2_readClause_39 n (o3 w) (o3 i, h) = some (Sum.inl (o3 (i + 1), H2)) by
            unfold BX2_readClause_39
            rw [mb1]
            simp only [Option.bind_some]
            rw [if_neg c0, g1]
            simp only [Option.bind_some]
            rw [if_pos e33, ed, if_pos e44, numR5 bo g7 g4 g5 hk h3 h4 hn]
            simp only [Option.bind_some, y1]
            rw [n1, o3_add]]
          exact z1
        · rw [z4, y4 7 (by omega), g6 7 (by omega) (by omega) (by omega)]
        · rw [numsV, if_pos ⟨h3, h4⟩]
          revert z5
          cases numsV B Z m (toV B Z k) with
          | inl q =>
            rintro ⟨b1, b2, b3⟩
            exact ⟨b1, b2, by rw [List.append_assoc] at b3; exact b3⟩
          | inr p => exact fun b => b
      · refine ⟨0, H, ?_, sm, g7, g6 7 (by omega) (by omega) (by omega), ?_⟩
        · rw [aw_loop, show BX2_readClause_39 n (o3 w) (o3 i, h) = some (Sum.inr (0, H)) by
            unfold BX2_readClause_39
            rw [mb1]
            simp only [Option.bind_some]
            rw [if_neg c0, g1]
            simp only [Option.bind_some]
            rw [if_pos e33, ed, if_neg (show ¬ o3 (toV B Z k - frV B Z k) ≤ 4 by rw [n4, o3_le (by omega) (by omega)]; exact h4)]]
        · rw [numsV, if_neg (fun q => h4 q.2)]
          exact ⟨rfl, g4⟩
    · refine ⟨0, H, ?_, sm, g7, g6 7 (by omega) (by omega) (by omega), ?_⟩
      · rw [aw_loop, show BX2_readClause_39 n (o3 w) (o3 i, h) = some (Sum.inr (0, H)) by
          unfold BX2_readClause_39
          rw [mb1]
          simp only [Option.bind_some]
          rw [if_neg c0, g1]
          simp only [Option.bind_some]
          rw [if_neg (show ¬ o3 (sV B Z (frV B Z k)) = 3 by rw [n3, o3_eq (by omega) (by omega)]; exact h3)]]
      · rw [numsV, if_neg (fun q => h3 q.1)]
        exact ⟨rfl, g4⟩
/-- what the model has behind the numbers of a clause -/
def Nm6 (B : Nat → Nat) (Z : Nat) (h0 H : aw_H) (w i : Nat) (an : Int32) (r : (List Nat × Nat) ⊕ Nat) : Prop := match r with
  | .inl q => an = o3 w ∧ H.1 71 13 = o3 (frV B Z q.2) ∧ (∀ j, j < q.1.length → H.1 80 (i + j) = o3 (q.1.getD j 0)) ∧ ∀ j, j < i → H.1 80 j = h0.1 80 j
  | .inr p => an = -1 ∧ H.1 71 13 = o3 p
theorem nums6 {n w : Nat} (bo : Bok B Z) (hw : w < 5) (hn : 300 ≤ n) : ∀ (m i k : Nat) (n1' : Nat) (h : aw_H), Tm h B Z → h.1 71 13 = o3 k → k ≤ Z → i + m = mnW w → m < n1' → ∃ (an : Int32) (H : aw_H), aw_loop (BX6_clause_26 n (o3 w)) n1' (o3 i, h) = some (an, H) ∧ Same (fun q => q = 71 ∨ q = 80) h H ∧ Tm H B Z ∧ H.1 71 2 = h.1 71 2 ∧ Nm6 B Z h H w i an (numsV B Z m k) := by
  have hZ := bo.1
  have mb := mn_b ⟨w, hw⟩
  have mb1 : FX6_manyOf (o3 w) = o3 (mnW w) := mb.2.1
  have mb4 : mnW w ≤ 4 := mb.2.2.2
  intro m
  induction m with
  | zero =>
    intro i k n1' h t e4 hk hi hm
    obtain ⟨n1', rfl⟩ : ∃ q, n1' = q + 1 := ⟨n1' - 1, by omega⟩
    obtain ⟨H, g1, g2, g3, g4, g5, g6⟩ := skips6 (n := n) bo t e4 hk hn
    refine ⟨o3 w, H, ?_, g2.mono (fun q hq => Or.inl hq), g6, g5 2 (by omega) (by omega), rfl, g3, fun j hj => absurd hj (Nat.not_lt_zero _), fun j _ => by rw [(g2 80 (by omega)).1]⟩
    rw [aw_loop, show BX6_clause_26 n (o3 w) (o3 i, h) = some (Sum.inr (o3 w, H)) by
      unfold BX6_clause_26
      rw [mb1, if_pos (show o3 (mnW w) ≤ o3 i by rw [o3_le (by omega) (by omega)]; omega)]
      simp only [g1, Option.bind_some]]
  | succ m ih =>
    intro i k n1' h t e4 hk hi hm
    obtain ⟨n1', rfl⟩ : ∃ q, n1' = q + 1 := ⟨n1' - 1, by omega⟩
    obtain ⟨a1, a2, a3⟩ := fr_prop (B := B) hk
    obtain ⟨p1, p2, p3, p4⟩ := to_prop (B := B) hk
    obtain ⟨H, g1, g2, g3, g4, g5, g6⟩ := skips6 (n := n) bo t e4 hk hn
    have nh := numH6 (n := n) bo g6 g3 g4 hk hn
    have c0 : ¬ o3 (mnW w) ≤ o3 i := by rw [o3_le (by omega) (by omega)]; omega
    have ib : aw_inb (o3 i) 4 = true := (o3_inb (by omega)).mpr (by omega)
    have ic : (o3 i).toNatClampNeg = i := o3_clamp (by omega)
    by_cases hc : sV B Z (frV B Z k) = 3 ∧ toV B Z k - frV B Z k ≤ 4
    · rw [if_pos hc] at nh
      have nb := nv_4 (B := B) (fr := frV B Z k) hc.2 (digs hk hc.1)
      have en : enV B Z k = toV B Z k := by unfold enV; rw [if_pos (Or.inr hc.1)]
      obtain ⟨H2, hH2⟩ : ∃ H2, H2 = aw_sI (aw_sI H 80 i (o3 (nvN B (frV B Z k) (toV B Z k - frV B Z k)))) 71 13 (o3 (toV B Z k)) := ⟨_, rfl⟩
      have sm2 : Same (fun q => q = 71 ∨ q = 80) H H2 := by rw [hH2]; exact (Same.sI (Or.inr rfl)).trans (Same.sI (Or.inl rfl))
      have t2 : Tm H2 B Z := g6.fr (by rw [hH2, sI_nk (by omega), sI_ne (by omega)]) (sm2 79 (by omega)).1
      obtain ⟨an, H3, z1, z2, z3, z4, z5⟩ := ih (i + 1) (toV B Z k) n1' H2 t2 (by rw [hH2, sI_eq]) p2 (by omega) (by omega)
      have e80 : H2.1 80 = (aw_sI H 80 i (o3 (nvN B (frV B Z k) (toV B Z k - frV B Z k)))).1 80 := by rw [hH2, sI_ne (by omega)]
      refine ⟨an, H3, ?_, ((g2.mono (fun q hq => Or.inl hq)).trans sm2).trans z2, z3, ?_, ?_⟩
      · rw [aw_loop, show BX6_clause_26 n (o3 w) (o3 i, h) = some (Sum.inl (o3 (i + 1), H2)) by
          unfold BX6_clause_26
          rw [mb1, if_neg c0]
          simp only [g1, Option.bind_some, nh]
          rw [if_pos ib, if_pos ib, ic, sI_eq, if_neg (o3_ne_neg1 (by omega)), sI_ne (by omega), g4, en, ← hH2, n1, o3_add]]
        exact z1
      · rw [z4, hH2, sI_nk (by omega), sI_ne (by omega), g5 2 (by omega) (by omega)]
      · rw [numsV, if_pos hc]
        revert z5
        cases numsV B Z m (toV B Z k) with
        | inl q =>
          rintro ⟨b1, b2, b3, b4⟩
          refine ⟨b1, b2, fun j hj => ?_, fun j hj => ?_⟩
          · cases j with
            | zero =>
              show H3.1 80 (i + 0) = o3 (nvN B (frV B Z k) (toV B Z k - frV B Z k))
              rw [Nat.add_zero, b4 i (by omega), e80, sI_eq]
            | succ j =>
              have := b3 j (by simpa using hj)
              rw [show i + (j + 1) = i + 1 + j by omega]
              exact this
          · rw [b4 j (by omega), e80, sI_nk (by omega), (g2 80 (by omega)).1]
        | inr p => exact fun b => b
    · rw [if_neg hc] at nh
      refine ⟨-1, aw_sI H 80 i (-1), ?_, (g2.mono (fun q hq => Or.inl hq)).trans (Same.sI (Or.inr rfl)), g6.fr (by rw [sI_ne (by omega)]) (sI_ne (by omega)), by rw [sI_ne (by omega)]; exact g5 2 (by omega) (by omega), ?_⟩
      · rw [aw_loop, show BX6_clause_26 n (o3 w) (o3 i, h) = some (Sum.inr (-1, aw_sI H 80 i (-1))) by
          unfold BX6_clause_26
          rw [mb1, if_neg c0]
          simp only [g1, Option.bind_some, nh]
          rw [if_pos ib, if_pos ib, ic, sI_eq, if_pos rfl]]
      · rw [numsV, if_neg hc]
        exact ⟨rfl, by rw [sI_ne (by omega)]; exact g3⟩
/-! a clause -/
def Cl5 (H : aw_H) (l0 : List Nat) (cn : Nat) (fl : Int32) (r : ((Nat × List Nat) × Nat) ⊕ Nat) : Prop := match r with
  | .inl q => fl = 1 ∧ H.1 54 4 = o3 q.2 ∧ Sd H (l0 ++ q.1.1 :: q.1.2) ∧ H.1 54 7 = o3 (cn + 1)
  | .inr p => fl = 0 ∧ H.1 54 3 = o3 p
def Cl6 (B : Nat → Nat) (Z : Nat) (H : aw_H) (an : Int32) (r : ((Nat × List Nat) × Nat) ⊕ Nat) : Prop := match r with
  | .inl q => an = o3 q.1.1 ∧ H.1 71 13 = o3 (frV B Z q.2) ∧ ∀ j, j < q.1.2.length → H.1 80 j = o3 (q.1.2.getD j 0)
  | .inr p => an = -1 ∧ H.1 71 13 = o3 p
theorem wd_so {k : Nat} (bo : Bok B Z) (hw : wdV B Z (frV B Z k) (enV B Z k) < 5) : sV B Z (frV B Z k) = 2 ∧ enV B Z k = toV B Z k := by
  have h2 : sV B Z (frV B Z k) = 2 := by
    apply Classical.byContradiction
    intro q
    rw [wd_not bo q] at hw
    omega
  exact ⟨h2, by unfold enV; rw [if_pos (Or.inl h2)]⟩
theorem clause5 {n k cn : Nat} {h : aw_H} {l0 : List Nat} (bo : Bok B Z) (t : Tp h B Z) (e4 : h.1 54 4 = o3 k) (hk : k ≤ Z) (s : Sd h l0) (hl : l0.length ≤ k) (hc : h.1 54 7 = o3 cn) (hn : 300 ≤ n) : ∃ (fl : Int32) (H : aw_H), FX2_readClause n h = some (fl, H) ∧ Same (fun q => q = 54 ∨ q = 56) h H ∧ Tp H B Z ∧ Cl5 H l0 cn fl (clauV B Z k) := by
  have hZ := bo.1
  obtain ⟨a1, a2, a3⟩ := fr_prop (B := B) hk
  obtain ⟨p1, p2, p3, p4⟩ := to_prop (B := B) hk
  obtain ⟨H, g1, g2, g3, g4, g5, g6, g7⟩ := next5 (n := n) bo t e4 hk hn
  have s1 : Sd H l0 := s.fr (g6 6 (by omega) (by omega) (by omega)) (g2 56 (by omega)).1
  have s5 := sV_le (B := B) (Z := Z) (frV B Z k)
  have sm : Same (fun q => q = 54 ∨ q = 56) h H := g2.mono (fun q hq => Or.inl hq)
  by_cases h2 : sV B Z (frV B Z k) = 2
  · have e22 : o3 (sV B Z (frV B Z k)) = 2 := by rw [h2]; rfl
    have en : enV B Z k = toV B Z k := by unfold enV; rw [if_pos (Or.inl h2)]
    have wr := word5 (n := n) bo g7 g4 g5 p1 p2 hn
    rw [← en] at wr
    have w5 : wdV B Z (frV B Z k) (enV B Z k) ≤ 5 := wf_le 5
    by_cases hw : wdV B Z (frV B Z k) (enV B Z k) < 5
    · have ew : wdI (wdV B Z (frV B Z k) (enV B Z k)) = o3 (wdV B Z (frV B Z k) (enV B Z k)) := by unfold wdI; rw [if_neg (by omega)]
      rw [ew] at wr
      obtain ⟨H1, hH1⟩ : ∃ H1, H1 = aw_sI H 54 7 (o3 (cn + 1)) := ⟨_, rfl⟩
      have t1 : Tp H1 B Z := g7.fr (by rw [hH1, sI_nk (by omega)]) (by rw [hH1, sI_ne (by omega)])
      have s2 : Sd H1 l0 := s1.fr (by rw [hH1, sI_nk (by omega)]) (by rw [hH1, sI_ne (by omega)])
      have hlt := p3 (by omega)
      obtain ⟨H2, y1, y2, y3, y4⟩ := say5 (x := wdV B Z (frV B Z k) (enV B Z k)) s2 (by omega)
      have t2 : Tp H2 B Z := t1.fr (y4 1 (by omega)) (y3 55 (by omega)).1
      have mb := mn_b ⟨_, hw⟩
      have mb4 : mnW (wdV B Z (frV B Z k) (enV B Z k)) ≤ 4 := mb.2.2.2
      have f1 : H2.1 54 4 = o3 (toV B Z k) := by rw [y4 4 (by omega), hH1, sI_nk (by omega)]; exact g5
      obtain ⟨fl, H3, z1, z2, z3, z4, z5⟩ := nums5 (n := n) (w := wdV B Z (frV B Z k) (enV B Z k)) bo hw hn (mnW (wdV B Z (frV B Z k) (enV B Z k))) 0 (toV B Z k) (l0 ++ [wdV B Z (frV B Z k) (enV B Z k)]) n H2 t2 f1 p2 y2 (by simp; omega) (by omega) (by omega)
      refine ⟨fl, H3, ?_, ((sm.trans (show Same (fun q => q = 54 ∨ q = 56) H H1 by rw [hH1]; exact Same.sI (Or.inl rfl))).trans y3).trans z2, z3, ?_⟩
      · unfold FX2_readClause
        rw [g1]
        simp only [Option.bind_some]
        rw [if_pos e22, wr]
        simp only [Option.bind_some]
        rw [if_neg (o3_ne_neg1 (by omega)), g6 7 (by omega) (by omega) (by omega), hc, n1, o3_add, ← hH1, y1]
        simp only [Option.bind_some]
        exact z1
      · have e7 : H3.1 54 7 = o3 (cn + 1) := by rw [z4, y4 7 (by omega), hH1, sI_eq]
        unfold clauV
        rw [if_pos hw]
        revert z5
        cases numsV B Z (mnW (wdV B Z (frV B Z k) (enV B Z k))) (toV B Z k) with
        | inl q =>
          rintro ⟨b1, b2, b3⟩
          exact ⟨b1, b2, by rw [List.append_assoc] at b3; exact b3, e7⟩
        | inr p => exact fun b => b
    · have ew : wdI (wdV B Z (frV B Z k) (enV B Z k)) = -1 := by unfold wdI; rw [if_pos (by omega)]
      rw [ew] at wr
      refine ⟨0, H, ?_, sm, g7, ?_⟩
      · unfold FX2_readClause
        rw [g1]
        simp only [Option.bind_some]
        rw [if_pos e22, wr]
        simp only [Option.bind_some, if_true]
      · unfold clauV
        rw [if_neg hw]
        exact ⟨rfl, g4⟩
  · refine ⟨0, H, ?_, sm, g7, ?_⟩
    · unfold FX2_readClause
      rw [g1]
      simp only [Option.bind_some]
      rw [if_neg (show ¬ o3 (sV B Z (frV B Z k)) = 2 by rw [n2, o3_eq (by omega) (by omega)]; exact h2)]
    · unfold clauV
      rw [if_neg (by rw [wd_not bo h2]; omega)]
      exact ⟨rfl, g4⟩
theorem clause6 {n k : Nat} {h : aw_H} (bo : Bok B Z) (t : Tm h B Z) (e4 : h.1 71 13 = o3 k) (hk : k ≤ Z) (hn : 300 ≤ n) : ∃ (an : Int32) (H : aw_H), FX6_clause n h = some (an, H) ∧ Same (fun q => q = 71 ∨ q = 80) h H ∧ Tm H B Z ∧ H.1 71 2 = h.1 71 2 ∧ Cl6 B Z H an (clauV B Z k) := by
  have hZ := bo.1
  obtain ⟨a1, a2, a3⟩ := fr_prop (B := B) hk
  obtain ⟨p1, p2, p3, p4⟩ := to_prop (B := B) hk
  obtain ⟨H, g1, g2, g3, g4, g5, g6⟩ := skips6 (n := n) bo t e4 hk hn
  have enz : enV B Z k ≤ Z := by unfold enV; split <;> omega
  have wr := word6 (n := n) bo g6 g3 g4 a2 enz hn
  have w5 : wdV B Z (frV B Z k) (enV B Z k) ≤ 5 := wf_le 5
  by_cases hw : wdV B Z (frV B Z k) (enV B Z k) < 5
  · have ew : wdI (wdV B Z (frV B Z k) (enV B Z k)) = o3 (wdV B Z (frV B Z k) (enV B Z k)) := by unfold wdI; rw [if_neg (by omega)]
    rw [ew] at wr
    obtain ⟨h2, en⟩ := wd_so bo hw
    obtain ⟨H1, hH1⟩ : ∃ H1, H1 = aw_sI H 71 13 (o3 (toV B Z k)) := ⟨_, rfl⟩
    have t1 : Tm H1 B Z := g6.fr (by rw [hH1, sI_nk (by omega)]) (by rw [hH1, sI_ne (by omega)])
    have mb := mn_b ⟨_, hw⟩
    have mb4 : mnW (wdV B Z (frV B Z k) (enV B Z k)) ≤ 4 := mb.2.2.2
    obtain ⟨an, H3, z1, z2, z3, z4, z5⟩ := nums6 (n := n) (w := wdV B Z (frV B Z k) (enV B Z k)) bo hw hn (mnW (wdV B Z (frV B Z k) (enV B Z k))) 0 (toV B Z k) n H1 t1 (by rw [hH1, sI_eq]) p2 (by omega) (by omega)
    refine ⟨an, H3, ?_, ((g2.mono (fun q hq => Or.inl hq)).trans (show Same (fun q => q = 71 ∨ q = 80) H H1 by rw [hH1]; exact Same.sI (Or.inl rfl))).trans z2, z3, by rw [z4, hH1, sI_nk (by omega)]; exact g5 2 (by omega) (by omega), ?_⟩
    · unfold FX6_clause
      rw [g1]
      simp only [Option.bind_some]
      rw [wr]
      simp only [Option.bind_some]
      have e14 : H.1 71 14 = o3 (toV B Z k) := by rw [g4, en]
      rw [if_neg (o3_ne_neg1 (by omega)), e14, ← hH1]
      exact z1
    · unfold clauV
      rw [if_pos hw]
      revert z5
      cases numsV B Z (mnW (wdV B Z (frV B Z k) (enV B Z k))) (toV B Z k) with
      | inl q =>
        rintro ⟨b1, b2, b3, b4⟩
        exact ⟨b1, b2, fun j hj => by have := b3 j hj; rw [Nat.zero_add] at this; exact this⟩
      | inr p => exact fun b => b
  · have ew : wdI (wdV B Z (frV B Z k) (enV B Z k)) = -1 := by unfold wdI; rw [if_pos (by omega)]
    rw [ew] at wr
    refine ⟨-1, H, ?_, g2.mono (fun q hq => Or.inl hq), g6, g5 2 (by omega) (by omega), ?_⟩
    · unfold FX6_clause
      rw [g1]
      simp only [Option.bind_some]
      rw [wr]
      simp only [Option.bind_some, if_true]
    · unfold clauV
      rw [if_neg hw]
      exact ⟨rfl, g3⟩
theorem clau_prop {k : Nat} (bo : Bok B Z) (hk : k ≤ Z) : match clauV B Z k with
    | .inl q => q.1.1 < 5 ∧ q.1.2.length = mnW q.1.1 ∧ k + q.1.2.length + 1 ≤ q.2 ∧ q.2 ≤ Z ∧ ∀ j, q.1.2.getD j 0 ≤ 9999
    | .inr p => p ≤ Z := by
  obtain ⟨a1, a2, a3⟩ := fr_prop (B := B) hk
  obtain ⟨p1, p2, p3, p4⟩ := to_prop (B := B) hk
  unfold clauV
  by_cases hw : wdV B Z (frV B Z k) (enV B Z k) < 5
  · rw [if_pos hw]
    obtain ⟨h2, en⟩ := wd_so bo hw
    have := p3 (by omega)
    have np := nums_prop (B := B) (Z := Z) (mnW (wdV B Z (frV B Z k) (enV B Z k))) (toV B Z k) p2
    revert np
    cases numsV B Z (mnW (wdV B Z (frV B Z k) (enV B Z k))) (toV B Z k) with
    | inl q =>
      rintro ⟨b1, b2, b3, b4⟩
      exact ⟨hw, b3, by show k + q.1.length + 1 ≤ q.2; omega, b2, b4⟩
    | inr p => exact fun b => b
  · rw [if_neg hw]
    exact a2
end CLA

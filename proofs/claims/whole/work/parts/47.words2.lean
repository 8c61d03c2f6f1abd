/-! tokens, words, numbers -/
def frV (B : Nat → Nat) (Z k : Nat) : Nat := bh B Z 1 k
def toV (B : Nat → Nat) (Z k : Nat) : Nat := if sV B Z (frV B Z k) = 4 then frV B Z k + 1 else bh B Z (sV B Z (frV B Z k)) (frV B Z k)
def enV (B : Nat → Nat) (Z k : Nat) : Nat := if sV B Z (frV B Z k) = 2 ∨ sV B Z (frV B Z k) = 3 then toV B Z k else frV B Z k
section LX2
variable {B : Nat → Nat} {Z : Nat} {h : aw_H}
theorem sV_end {k : Nat} : sV B Z k = 0 ↔ Z ≤ k := by
  unfold sV
  repeat' split
  all_goals first | omega | (simp; omega)
theorem fr_prop {k : Nat} (hk : k ≤ Z) : k ≤ frV B Z k ∧ frV B Z k ≤ Z ∧ ¬ sV B Z (frV B Z k) = 1 := by
  obtain ⟨a, b, c, d⟩ := bh_prop (B := B) (Z := Z) (s := 1) (Z - k) k (Nat.le_refl _) hk
  refine ⟨a, b, fun q => d ⟨?_, q⟩⟩
  have : ¬ Z ≤ bh B Z 1 k := fun q2 => by
    have := (sV_end (B := B) (Z := Z)).mpr q2
    unfold frV at q
    omega
  omega
theorem to_prop {k : Nat} (hk : k ≤ Z) : frV B Z k ≤ toV B Z k ∧ toV B Z k ≤ Z ∧ (¬ sV B Z (frV B Z k) = 0 → frV B Z k < toV B Z k) ∧ (¬ sV B Z (frV B Z k) = 4 → ∀ j, frV B Z k ≤ j → j < toV B Z k → sV B Z j = sV B Z (frV B Z k)) := by
  obtain ⟨a, b, c⟩ := fr_prop (B := B) hk
  unfold toV
  by_cases e : sV B Z (frV B Z k) = 4
  · rw [if_pos e]
    have : ¬ Z ≤ frV B Z k := fun q => by
      have := (sV_end (B := B) (Z := Z)).mpr q
      omega
    exact ⟨by omega, by omega, fun _ => by omega, fun q => absurd e q⟩
  · rw [if_neg e]
    obtain ⟨a1, b1, c1, d1⟩ := bh_prop (B := B) (Z := Z) (s := sV B Z (frV B Z k)) (Z - frV B Z k) (frV B Z k) (Nat.le_refl _) b
    refine ⟨a1, b1, fun q => ?_, fun _ => c1⟩
    have hlt : frV B Z k < Z := by
      have : ¬ Z ≤ frV B Z k := fun q2 => q ((sV_end (B := B) (Z := Z)).mpr q2)
      omega
    have := bh_step (B := B) (Z := Z) (s := sV B Z (frV B Z k)) hlt rfl
    obtain ⟨a2, -, -, -⟩ := bh_prop (B := B) (Z := Z) (s := sV B Z (frV B Z k)) (Z - (frV B Z k + 1)) (frV B Z k + 1) (Nat.le_refl _) (by omega)
    omega
theorem next5 {n k : Nat} (bo : Bok B Z) (t : Tp h B Z) (e4 : h.1 54 4 = o3 k) (hk : k ≤ Z) (hn : 300 ≤ n) : ∃ H, FX2_next n h = some (o3 (sV B Z (frV B Z k)), H) ∧ Same (fun q => q = 54) h H ∧ H.1 54 2 = o3 (sV B Z (frV B Z k)) ∧ H.1 54 3 = o3 (frV B Z k) ∧ H.1 54 4 = o3 (toV B Z k) ∧ (∀ j, j ≠ 2 → j ≠ 3 → j ≠ 4 → H.1 54 j = h.1 54 j) ∧ Tp H B Z := by
  have hZ := bo.1
  obtain ⟨p1, p2, p3⟩ := fr_prop (B := B) hk
  have s5 := sV_le (B := B) (Z := Z) (frV B Z k)
  obtain ⟨H1, hH1⟩ : ∃ H1, H1 = aw_sI h 54 3 (o3 (frV B Z k)) := ⟨_, rfl⟩
  have t1 : Tp H1 B Z := by
    rw [hH1]
    exact ⟨by rw [sI_nk (by omega)]; exact t.1, fun j hj => by rw [sI_ne (by omega)]; exact t.2 j hj⟩
  obtain ⟨H2, hH2⟩ : ∃ H2, H2 = aw_sI H1 54 2 (o3 (sV B Z (frV B Z k))) := ⟨_, rfl⟩
  have t2 : Tp H2 B Z := by
    rw [hH2]
    exact ⟨by rw [sI_nk (by omega)]; exact t1.1, fun j hj => by rw [sI_ne (by omega)]; exact t1.2 j hj⟩
  have g3 : H1.1 54 3 = o3 (frV B Z k) := by rw [hH1, sI_eq]
  have g23 : H2.1 54 3 = o3 (frV B Z k) := by rw [hH2, sI_nk (by omega)]; exact g3
  have g22 : H2.1 54 2 = o3 (sV B Z (frV B Z k)) := by rw [hH2, sI_eq]
  have b1 : FX2_behind n (h.1 54 4) 1 h = some (o3 (frV B Z k)) := by
    rw [e4]
    exact behind5 bo t hk (s := 1) (by omega) hn
  have b2 : FX2_sortAt (H1.1 54 3) H1 = some (o3 (sV B Z (frV B Z k))) := by
    rw [g3]; exact sort5 bo t1 (by omega)
  refine ⟨aw_sI H2 54 4 (o3 (toV B Z k)), ?_, ?_, ?_, ?_, sI_eq, fun j j2 j3 j4 => ?_, ?_⟩
  · unfold FX2_next
    rw [b1]
    simp only [Option.bind_some]
    rw [← hH1, b2]
    simp only [Option.bind_some]
    rw [← hH2, g22, g23]
    by_cases e : sV B Z (frV B Z k) = 4
    · rw [if_pos (show o3 (sV B Z (frV B Z k)) = 4 by rw [e]; rfl), sI_nk (by omega), g22]
      have : toV B Z k = frV B Z k + 1 := by unfold toV; rw [if_pos e]
      rw [this, n1, o3_add]
    · rw [if_neg (show ¬ o3 (sV B Z (frV B Z k)) = 4 by rw [n4, o3_eq (by omega) (by omega)]; exact e), behind5 bo t2 p2 s5 hn]
      simp only [Option.bind_some]
      have : toV B Z k = bh B Z (sV B Z (frV B Z k)) (frV B Z k) := by unfold toV; rw [if_neg e]
      rw [sI_nk (by omega), g22, this]
  · rw [hH2, hH1]
    exact ((Same.sI (S := fun q => q = 54) rfl).trans (Same.sI (S := fun q => q = 54) rfl)).trans (Same.sI (S := fun q => q = 54) rfl)
  · rw [sI_nk (by omega)]; exact g22
  · rw [sI_nk (by omega)]; exact g23
  · rw [hH2, hH1, sI_nk j4, sI_nk j2, sI_nk j3]
  · exact ⟨by rw [sI_nk (by omega)]; exact t2.1, fun j hj => by rw [sI_ne (by omega)]; exact t2.2 j hj⟩
theorem skips6 {n k : Nat} (bo : Bok B Z) (t : Tm h B Z) (e4 : h.1 71 13 = o3 k) (hk : k ≤ Z) (hn : 300 ≤ n) : ∃ H, FX6_skips n h = some H ∧ Same (fun q => q = 71) h H ∧ H.1 71 13 = o3 (frV B Z k) ∧ H.1 71 14 = o3 (enV B Z k) ∧ (∀ j, j ≠ 13 → j ≠ 14 → H.1 71 j = h.1 71 j) ∧ Tm H B Z := by
  have hZ := bo.1
  have inner : ∀ u : aw_H, Tm u B Z → u.1 71 13 = o3 (frV B Z k) → Same (fun q => q = 71) h u → (∀ j, j ≠ 13 → j ≠ 14 → u.1 71 j = h.1 71 j) → u.1 71 14 = o3 (frV B Z k) → ∃ q, aw_loop (BX6_skips_56 (byV B Z (frV B Z k))) n u = some q ∧ ∃ H, q = Sum.inr H ∧ Same (fun q => q = 71) h H ∧ H.1 71 13 = o3 (frV B Z k) ∧ H.1 71 14 = o3 (enV B Z k) ∧ (∀ j, j ≠ 13 → j ≠ 14 → H.1 71 j = h.1 71 j) ∧ Tm H B Z := by
    intro u tu u13 us uj u14
    obtain ⟨p1, p2, p3⟩ := fr_prop (B := B) hk
    have hen : ∀ x, (sV B Z (frV B Z k) = 2 ∨ sV B Z (frV B Z k) = 3) → (bh B Z (sV B Z (frV B Z k)) x = x ∧ bh B Z (sV B Z (frV B Z k)) x = toV B Z k) → x = enV B Z k := fun x hx hb => by
      unfold enV
      rw [if_pos hx, ← hb.2, hb.1]
    refine lp_wp (fun w => ∃ x, x ≤ Z ∧ w.1 71 14 = o3 x ∧ w.1 71 13 = o3 (frV B Z k) ∧ Same (fun q => q = 71) h w ∧ (∀ j, j ≠ 13 → j ≠ 14 → w.1 71 j = h.1 71 j) ∧ Tm w B Z ∧ ((sV B Z (frV B Z k) = 2 ∨ sV B Z (frV B Z k) = 3) → bh B Z (sV B Z (frV B Z k)) x = toV B Z k) ∧ (¬ (sV B Z (frV B Z k) = 2 ∨ sV B Z (frV B Z k) = 3) → x = frV B Z k)) (fun w => 100 - (w.1 71 14).toNatClampNeg) ?_ n u ⟨frV B Z k, p2, u14, u13, us, uj, tu, fun hx => ?_, fun _ => rfl⟩ (by show 100 - _ < n; omega)
    · rintro w ⟨x, hx, r1, r2, r3, r4, r5, r6, r7⟩
      have bx := byte6 bo r5 (show x < 1000 by omega)
      have step : sV B Z x = sV B Z (frV B Z k) → (sV B Z (frV B Z k) = 2 ∨ sV B Z (frV B Z k) = 3) → (∃ x', x' ≤ Z ∧ (aw_sI w 71 14 (w.1 71 14 + 1)).1 71 14 = o3 x' ∧ (aw_sI w 71 14 (w.1 71 14 + 1)).1 71 13 = o3 (frV B Z k) ∧ Same (fun q => q = 71) h (aw_sI w 71 14 (w.1 71 14 + 1)) ∧ (∀ j, j ≠ 13 → j ≠ 14 → (aw_sI w 71 14 (w.1 71 14 + 1)).1 71 j = h.1 71 j) ∧ Tm (aw_sI w 71 14 (w.1 71 14 + 1)) B Z ∧ ((sV B Z (frV B Z k) = 2 ∨ sV B Z (frV B Z k) = 3) → bh B Z (sV B Z (frV B Z k)) x' = toV B Z k) ∧ (¬ (sV B Z (frV B Z k) = 2 ∨ sV B Z (frV B Z k) = 3) → x' = frV B Z k)) ∧ 100 - ((aw_sI w 71 14 (w.1 71 14 + 1)).1 71 14).toNatClampNeg < 100 - (w.1 71 14).toNatClampNeg := by
        intro hs h23
        have hxz : x < Z := by
          have : ¬ Z ≤ x := fun q => by
            have := (sV_end (B := B) (Z := Z)).mpr q
            omega
          omega
        have e1 : w.1 71 14 + 1 = o3 (x + 1) := by rw [r1, n1, o3_add]
        rw [e1]
        refine ⟨⟨x + 1, by omega, sI_eq, by rw [sI_nk (by omega)]; exact r2, r3.trans (Same.sI (S := fun q => q = 71) rfl), fun j j1 j2 => by rw [sI_nk j2]; exact r4 j j1 j2, ⟨by rw [sI_nk (by omega)]; exact r5.1, fun b hb => by rw [sI_ne (by omega)]; exact r5.2 b hb⟩, fun q => ?_, fun q => absurd h23 q⟩, ?_⟩
        · rw [← r6 h23, bh_step hxz hs]
        · rw [sI_eq, r1, o3_clamp (by omega), o3_clamp (by omega)]; omega
      by_cases c2 : sV B Z (frV B Z k) = 2
      · have l0 : ¬ FX6_isLetter (byV B Z (frV B Z k)) = 0 := fun q => (letter6 bo).mp q c2
        have d0 : FX6_isDigit (byV B Z (frV B Z k)) = 0 := (digit6 bo).mpr (by omega)
        by_cases cx : sV B Z x = 2
        · have lx : ¬ FX6_isLetter (byV B Z x) = 0 := fun q => (letter6 bo).mp q cx
          obtain ⟨a, b⟩ := step (by omega) (Or.inl c2)
          refine Or.inl ⟨aw_sI w 71 14 (w.1 71 14 + 1), ?_, a, b⟩
          unfold BX6_skips_56
          rw [if_neg l0, r1, bx]
          simp only [Option.bind_some]
          rw [if_neg lx]
        · have lx : FX6_isLetter (byV B Z x) = 0 := (letter6 bo).mpr cx
          refine Or.inr ⟨Sum.inr w, ?_, w, rfl, r3, r2, ?_, r4, r5⟩
          · unfold BX6_skips_56
            rw [if_neg l0, r1, bx]
            simp only [Option.bind_some]
            rw [if_pos lx, if_pos d0]
          · rw [r1, ← hen x (Or.inl c2) ⟨bh_stop (fun q => cx (by rw [← c2]; exact q.2)), r6 (Or.inl c2)⟩]
      · have l0 : FX6_isLetter (byV B Z (frV B Z k)) = 0 := (letter6 bo).mpr c2
        by_cases c3 : sV B Z (frV B Z k) = 3
        · have d0 : ¬ FX6_isDigit (byV B Z (frV B Z k)) = 0 := fun q => (digit6 bo).mp q c3
          by_cases cx : sV B Z x = 3
          · have lx : ¬ FX6_isDigit (byV B Z x) = 0 := fun q => (digit6 bo).mp q cx
            obtain ⟨a, b⟩ := step (by omega) (Or.inr c3)
            refine Or.inl ⟨aw_sI w 71 14 (w.1 71 14 + 1), ?_, a, b⟩
            unfold BX6_skips_56
            rw [if_pos l0, if_neg d0, r1, bx]
            simp only [Option.bind_some]
            rw [if_neg lx]
          · have lx : FX6_isDigit (byV B Z x) = 0 := (digit6 bo).mpr cx
            refine Or.inr ⟨Sum.inr w, ?_, w, rfl, r3, r2, ?_, r4, r5⟩
            · unfold BX6_skips_56
              rw [if_pos l0, if_neg d0, r1, bx]
              simp only [Option.bind_some]
              rw [if_pos lx]
            · rw [r1, ← hen x (Or.inr c3) ⟨bh_stop (fun q => cx (by rw [← c3]; exact q.2)), r6 (Or.inr c3)⟩]
        · have d0 : FX6_isDigit (byV B Z (frV B Z k)) = 0 := (digit6 bo).mpr c3
          refine Or.inr ⟨Sum.inr w, ?_, w, rfl, r3, r2, ?_, r4, r5⟩
          · unfold BX6_skips_56
            rw [if_pos l0, if_pos d0]
          · rw [r1, r7 (by omega)]
            unfold enV
            rw [if_neg (by omega)]
    · unfold toV
      rw [if_neg (by omega)]
  unfold FX6_skips
  refine lp_wp (fun w => ∃ x, x ≤ Z ∧ w.1 71 13 = o3 x ∧ bh B Z 1 x = frV B Z k ∧ Same (fun q => q = 71) h w ∧ (∀ j, j ≠ 13 → j ≠ 14 → w.1 71 j = h.1 71 j) ∧ Tm w B Z) (fun w => 100 - (w.1 71 13).toNatClampNeg) ?_ n h ⟨k, hk, e4, rfl, Same.rfl, fun _ _ _ => rfl, t⟩ (by show 100 - _ < n; omega)
  rintro w ⟨x, hx, r1, r2, r3, r4, r5⟩
  have bx := byte6 bo r5 (show x < 1000 by omega)
  by_cases c1 : sV B Z x = 1
  · have hxz : x < Z := by
      have : ¬ Z ≤ x := fun q => by
        have := (sV_end (B := B) (Z := Z)).mpr q
        omega
      omega
    have e1 : w.1 71 13 + 1 = o3 (x + 1) := by rw [r1, n1, o3_add]
    refine Or.inl ⟨aw_sI w 71 13 (o3 (x + 1)), ?_, ⟨x + 1, by omega, sI_eq, by rw [← r2, bh_step hxz c1], r3.trans (Same.sI (S := fun q => q = 71) rfl), fun j j1 j2 => by rw [sI_nk j1]; exact r4 j j1 j2, ⟨by rw [sI_nk (by omega)]; exact r5.1, fun b hb => by rw [sI_ne (by omega)]; exact r5.2 b hb⟩⟩, ?_⟩
    · unfold BX6_skips_0
      rw [e1, r1, bx]
      simp only [Option.bind_some]
      rcases (blank6 bo).mpr c1 with q | q
      · rw [if_pos q]
      · by_cases q2 : byV B Z x = 32
        · rw [if_pos q2]
        · rw [if_neg q2, if_pos q]
    · show 100 - ((aw_sI w 71 13 (o3 (x + 1))).1 71 13).toNatClampNeg < _
      rw [sI_eq, r1, o3_clamp (by omega), o3_clamp (by omega)]; omega
  · have hfr : frV B Z k = x := by rw [← r2, bh_stop (fun q => c1 q.2)]
    have q1 : ¬ byV B Z x = 32 := fun q => c1 ((blank6 bo).mp (Or.inl q))
    have q2 : ¬ byV B Z x = 10 := fun q => c1 ((blank6 bo).mp (Or.inr q))
    have tu : Tm (aw_sI w 71 14 (o3 x)) B Z := ⟨by rw [sI_nk (by omega)]; exact r5.1, fun b hb => by rw [sI_ne (by omega)]; exact r5.2 b hb⟩
    have bx2 := byte6 bo tu (show x < 1000 by omega)
    obtain ⟨q, g1, H, g2, g3, g4, g5, g6, g7⟩ := inner (aw_sI w 71 14 (o3 x)) tu (by rw [sI_nk (by omega), hfr]; exact r1) (r3.trans (Same.sI (S := fun q => q = 71) rfl)) (fun j j1 j2 => by rw [sI_nk j2]; exact r4 j j1 j2) (by rw [sI_eq, hfr])
    refine Or.inr ⟨H, ?_, g3, g4, g5, g6, g7⟩
    rw [hfr] at g1
    unfold BX6_skips_0
    rw [r1, bx]
    simp only [Option.bind_some]
    rw [if_neg q1, if_neg q2, sI_nk (by omega), r1, bx2]
    simp only [Option.bind_some]
    rw [g1, g2]
/-! words -/
def lnW (w : Nat) : Nat := [4, 4, 5, 5, 3].getD w 0
def ofW (w : Nat) : Nat := [0, 5, 10, 16, 22].getD w 26
def spW (w i : Nat) : Nat := (([[112, 97, 114, 116], [103, 101, 97, 114], [115, 104, 97, 102, 116], [112, 104, 97, 115, 101], [97, 109, 112]] : List (List Nat)).getD w []).getD i 0
theorem ch5 : ∀ w : Fin 5, ∀ i : Fin 5, i.1 < lnW w.1 → FJ0_charAt_5068e (1000 + w.1) (o3 i.1) = some (o3 (spW w.1 i.1)) := by decide +kernel
theorem ch6 : ∀ w : Fin 5, ∀ i : Fin 6, i.1 ≤ lnW w.1 → FJ0_charAt_5068e 1006 (o3 (ofW w.1 + i.1)) = some (if i.1 = lnW w.1 then 32 else o3 (spW w.1 i.1)) := by decide +kernel
theorem ln5 : ∀ w : Fin 5, FJ0_length_8abf5 (1000 + w.1) = o3 (lnW w.1) := by decide +kernel
theorem ln6 : FJ0_length_8abf5 1006 = o3 26 := by decide +kernel
theorem wd_b : ∀ w : Fin 5, 3 ≤ lnW w.1 ∧ lnW w.1 ≤ 5 ∧ ofW w.1 + lnW w.1 + 1 = ofW (w.1 + 1) ∧ ofW w.1 < 26 := by decide
theorem sp_b2 : ∀ w : Fin 5, ∀ i : Fin 5, i.1 < lnW w.1 → 97 ≤ spW w.1 i.1 ∧ spW w.1 i.1 ≤ 122 := by decide
def mtV (B : Nat → Nat) (Z fr w : Nat) : Nat → Bool
  | 0 => true
  | i + 1 => mtV B Z fr w i && decide (byV B Z (fr + i) = o3 (spW w i))
def isWd (B : Nat → Nat) (Z fr en w : Nat) : Bool := decide (fr + lnW w = en) && mtV B Z fr w (lnW w)
def wfV (B : Nat → Nat) (Z fr en : Nat) : Nat → Nat
  | 0 => 5
  | d + 1 => bif isWd B Z fr en (5 - (d + 1)) then 5 - (d + 1) else wfV B Z fr en d
def wdV (B : Nat → Nat) (Z fr en : Nat) : Nat := wfV B Z fr en 5
def wdI (x : Nat) : Int32 := if x = 5 then -1 else o3 x
theorem mt_false {fr w i : Nat} (hn : ¬ byV B Z (fr + i) = o3 (spW w i)) : ∀ d : Nat, mtV B Z fr w (i + 1 + d) = false
  | 0 => by rw [Nat.add_zero, mtV, decide_eq_false hn, Bool.and_false]
  | d + 1 => by rw [← Nat.add_assoc, mtV, mt_false hn d, Bool.false_and]
theorem mt_not {fr en w : Nat} (bo : Bok B Z) (hw : w < 5) (hs : ¬ sV B Z fr = 2) : isWd B Z fr en w = false := by
  have hb := wd_b ⟨w, hw⟩
  have hn : ¬ byV B Z (fr + 0) = o3 (spW w 0) := fun q => by
    have hp := sp_b2 ⟨w, hw⟩ ⟨0, by omega⟩ (by show 0 < lnW w; have : 3 ≤ lnW w := hb.1; omega)
    have hp1 : 97 ≤ spW w 0 := hp.1
    have hp2 : spW w 0 ≤ 122 := hp.2
    have := (by_eq bo (show spW w 0 < 1000 by omega)).mp q
    rw [Nat.add_zero] at this
    apply hs
    unfold sV
    rw [if_neg (by omega), if_neg (by omega), if_neg (by omega), if_neg (by omega), if_neg (by omega), if_pos (by omega)]
  have hl : 3 ≤ lnW w := hb.1
  have := mt_false hn (lnW w - 1)
  rw [show 0 + 1 + (lnW w - 1) = lnW w by omega] at this
  unfold isWd
  rw [this, Bool.and_false]
theorem wd_not {fr en : Nat} (bo : Bok B Z) (hs : ¬ sV B Z fr = 2) : wdV B Z fr en = 5 := by
  unfold wdV
  simp only [wfV, mt_not bo (show 5 - (4 + 1) < 5 by omega) hs, mt_not bo (show 5 - (3 + 1) < 5 by omega) hs, mt_not bo (show 5 - (2 + 1) < 5 by omega) hs, mt_not bo (show 5 - (1 + 1) < 5 by omega) hs, mt_not bo (show 5 - (0 + 1) < 5 by omega) hs, Bool.cond_false]
theorem spelt5 {n fr to w : Nat} (bo : Bok B Z) (t : Tp h B Z) (hw : w < 5) (e3 : h.1 54 3 = o3 fr) (e4 : h.1 54 4 = o3 to) (h1 : fr ≤ to) (h2 : to ≤ Z) (hn : 300 ≤ n) : FX2_isSpelt n (1000 + w) h = some (bif isWd B Z fr to w then 1 else 0) := by
  have hZ := bo.1
  have hb := wd_b ⟨w, hw⟩
  have hb1 : 3 ≤ lnW w := hb.1
  have hb2 : lnW w ≤ 5 := hb.2.1
  have hl : FJ0_length_8abf5 (1000 + w) = o3 (lnW w) := ln5 ⟨w, hw⟩
  unfold FX2_isSpelt
  rw [hl, e3, e4, o3_sub h1 (by omega)]
  by_cases hc : fr + lnW w = to
  · rw [if_pos (show o3 (lnW w) = o3 (to - fr) by rw [show to - fr = lnW w by omega])]
    have key : ∃ q, aw_loop (BX2_isSpelt_20 (1000 + w) h) n (o3 0) = some q ∧ q = bif mtV B Z fr w (lnW w) then 1 else 0 := by
      refine lp_wp (fun u => ∃ i, i ≤ lnW w ∧ u = o3 i ∧ mtV B Z fr w i = true) (fun u => 10 - u.toNatClampNeg) ?_ n _ ⟨0, by omega, rfl, rfl⟩ (by show 10 - _ < n; omega)
      rintro u ⟨i, hi, rfl, hm⟩
      by_cases e : i = lnW w
      · refine Or.inr ⟨1, ?_, by rw [← e, hm]; rfl⟩
        unfold BX2_isSpelt_20
        rw [hl, if_pos (show o3 (lnW w) ≤ o3 i by rw [e]; exact Int32.le_refl _)]
      · have ch : FJ0_charAt_5068e (1000 + w) (o3 i) = some (o3 (spW w i)) := ch5 ⟨w, hw⟩ ⟨i, by omega⟩ (by show i < lnW w; omega)
        have ev : BX2_isSpelt_20 (1000 + w) h (o3 i) = if o3 (spW w i) = byV B Z (fr + i) then some (Sum.inl (o3 (i + 1))) else some (Sum.inr 0) := by
          unfold BX2_isSpelt_20
          rw [hl, if_neg (show ¬ o3 (lnW w) ≤ o3 i by rw [o3_le (by omega) (by omega)]; omega), ch, e3, o3_add, byte5 bo t (by omega)]
          simp only [Option.bind_some]
          rw [n1, o3_add]
        by_cases q : byV B Z (fr + i) = o3 (spW w i)
        · refine Or.inl ⟨o3 (i + 1), by rw [ev, if_pos q.symm], ⟨i + 1, by omega, rfl, by rw [mtV, hm, decide_eq_true q]; rfl⟩, ?_⟩
          show 10 - (o3 (i + 1)).toNatClampNeg < 10 - (o3 i).toNatClampNeg
          rw [o3_clamp (by omega), o3_clamp (by omega)]; omega
        · refine Or.inr ⟨0, by rw [ev, if_neg (fun x => q x.symm)], ?_⟩
          have := mt_false q (lnW w - (i + 1))
          rw [show i + 1 + (lnW w - (i + 1)) = lnW w by omega] at this
          rw [this]; rfl
    obtain ⟨q, q1, q2⟩ := key
    unfold isWd
    rw [decide_eq_true hc, Bool.true_and, ← q2]
    exact q1
  · rw [if_neg (show ¬ o3 (lnW w) = o3 (to - fr) by rw [o3_eq (by omega) (by omega)]; omega)]
    unfold isWd
    rw [decide_eq_false hc]; rfl
theorem spell_of : ∀ w : Fin 5, FX5_spellingOf (o3 w.1) = 1000 + w.1 := by decide
theorem wf_le {fr en : Nat} : ∀ d : Nat, wfV B Z fr en d ≤ 5
  | 0 => Nat.le_refl _
  | d + 1 => by
    rw [wfV]
    cases isWd B Z fr en (5 - (d + 1)) with
    | true => show 5 - (d + 1) ≤ 5; omega
    | false => exact wf_le d
theorem word5 {n fr to : Nat} (bo : Bok B Z) (t : Tp h B Z) (e3 : h.1 54 3 = o3 fr) (e4 : h.1 54 4 = o3 to) (h1 : fr ≤ to) (h2 : to ≤ Z) (hn : 300 ≤ n) : FX2_wordRead n h = some (wdI (wdV B Z fr to)) := by
  have key : ∃ q, aw_loop (BX2_wordRead_2 n h) n (o3 0) = some q ∧ q = wdI (wdV B Z fr to) := by
    refine lp_wp (fun u => ∃ w, w ≤ 5 ∧ u = o3 w ∧ wfV B Z fr to (5 - w) = wdV B Z fr to) (fun u => 10 - u.toNatClampNeg) ?_ n _ ⟨0, by omega, rfl, rfl⟩ (by show 10 - _ < n; omega)
    rintro u ⟨w, hw, rfl, r⟩
    by_cases e : w = 5
    · rw [e] at r
      refine Or.inr ⟨-1, ?_, by rw [← r]; rfl⟩
      unfold BX2_wordRead_2
      rw [if_pos (show (4 : Int32) < o3 w by rw [e]; decide)]
    · have so : FX5_spellingOf (o3 w) = 1000 + w := spell_of ⟨w, by omega⟩
      have sp := spelt5 (n := n) (w := w) bo t (by omega) e3 e4 h1 h2 hn
      rw [show 5 - w = 5 - (w + 1) + 1 by omega, wfV, show 5 - (5 - (w + 1) + 1) = w by omega] at r
      have ev : BX2_wordRead_2 n h (o3 w) = bif isWd B Z fr to w then some (Sum.inr (o3 w)) else some (Sum.inl (o3 (w + 1))) := by
        unfold BX2_wordRead_2
        rw [if_neg (show ¬ (4 : Int32) < o3 w by rw [n4, o3_lt (by omega) (by omega)]; omega), so, sp]
        simp only [Option.bind_some]
        rw [n1, o3_add]
        cases isWd B Z fr to w <;> rfl
      rw [ev]
      cases hI : isWd B Z fr to w with
      | true =>
        rw [hI] at r
        refine Or.inr ⟨_, rfl, ?_⟩
        rw [← r]
        show o3 w = wdI w
        unfold wdI
        rw [if_neg e]
      | false =>
        rw [hI] at r
        refine Or.inl ⟨_, rfl, ⟨w + 1, by omega, rfl, r⟩, ?_⟩
        show 10 - (o3 (w + 1)).toNatClampNeg < 10 - (o3 w).toNatClampNeg
        rw [o3_clamp (by omega), o3_clamp (by omega)]; omega
  obtain ⟨q, q1, q2⟩ := key
  rw [← q2]
  exact q1
theorem skipW {n w : Nat} {a : Int32} (hw : w < 5) (hn : 300 ≤ n) : aw_loop (BX6_wordHere_87 (o3 w, a)) n (o3 (ofW w)) = some (Sum.inr (Sum.inl (o3 (w + 1), o3 (ofW (w + 1))))) := by
  have hb := wd_b ⟨w, hw⟩
  have hb2 : lnW w ≤ 5 := hb.2.1
  have hb3 : ofW w + lnW w + 1 = ofW (w + 1) := hb.2.2.1
  have hb4 : ofW w < 26 := hb.2.2.2
  have key := lp_some (B := BX6_wordHere_87 (o3 w, a)) (q := Sum.inr (Sum.inl (o3 (w + 1), o3 (ofW (w + 1))))) (fun i => o3 (ofW w + i)) (lnW w) (fun i hi => by
    have ch : FJ0_charAt_5068e 1006 (o3 (ofW w + i)) = some (if i = lnW w then 32 else o3 (spW w i)) := ch6 ⟨w, hw⟩ ⟨i, by omega⟩ (by show i ≤ lnW w; omega)
    have hp := sp_b2 ⟨w, hw⟩ ⟨i, by omega⟩ hi
    have hp1 : 97 ≤ spW w i := hp.1
    have hp2 : spW w i ≤ 122 := hp.2
    unfold BX6_wordHere_87
    rw [ch, if_neg (by omega)]
    simp only [Option.bind_some]
    rw [if_neg (show ¬ o3 (spW w i) = 32 by rw [show (32 : Int32) = o3 32 from rfl, o3_eq (by omega) (by omega)]; omega), n1, o3_add, Nat.add_assoc]) (by
    have ch : FJ0_charAt_5068e 1006 (o3 (ofW w + lnW w)) = some (if lnW w = lnW w then 32 else o3 (spW w (lnW w))) := ch6 ⟨w, hw⟩ ⟨lnW w, by omega⟩ (Nat.le_refl _)
    unfold BX6_wordHere_87
    rw [ch, if_pos rfl]
    simp only [Option.bind_some, if_true]
    rw [n1, o3_add, o3_add, hb3]) n 0 (by omega) (by omega)
  exact key
theorem wordL {n fr en w : Nat} (bo : Bok B Z) (t : Tm h B Z) (hw : w < 5) (e3 : h.1 71 13 = o3 fr) (e4 : h.1 71 14 = o3 en) (h1 : fr ≤ Z) (h2 : en ≤ Z) (hn : 300 ≤ n) : aw_loop (BX6_wordHere_15 n h (o3 w, o3 (ofW w))) n (o3 0) = some (bif isWd B Z fr en w then Sum.inr (o3 w) else Sum.inl (o3 (w + 1), o3 (ofW (w + 1)))) := by
  have hZ := bo.1
  have hb := wd_b ⟨w, hw⟩
  have hb1 : 3 ≤ lnW w := hb.1
  have hb2 : lnW w ≤ 5 := hb.2.1
  have hb4 : ofW w < 26 := hb.2.2.2
  have sk := skipW (n := n) (a := o3 (ofW w)) hw hn
  have key : ∃ q, aw_loop (BX6_wordHere_15 n h (o3 w, o3 (ofW w))) n (o3 0) = some q ∧ q = bif isWd B Z fr en w then Sum.inr (o3 w) else Sum.inl (o3 (w + 1), o3 (ofW (w + 1))) := by
    refine lp_wp (fun u => ∃ i, i ≤ lnW w ∧ u = o3 i ∧ mtV B Z fr w i = true) (fun u => 10 - u.toNatClampNeg) ?_ n _ ⟨0, by omega, rfl, rfl⟩ (by show 10 - _ < n; omega)
    rintro u ⟨i, hi, rfl, hm⟩
    have ch : FJ0_charAt_5068e 1006 (o3 (ofW w + i)) = some (if i = lnW w then 32 else o3 (spW w i)) := ch6 ⟨w, hw⟩ ⟨i, by omega⟩ (by show i ≤ lnW w; omega)
    by_cases e : i = lnW w
    · rw [if_pos e] at ch
      refine Or.inr ⟨_, ?_, rfl⟩
      unfold BX6_wordHere_15
      simp only [o3_add, ch, Option.bind_some, if_true, e3, e4]
      by_cases hc : fr + lnW w = en
      · rw [if_pos (show o3 (fr + i) = o3 en by rw [e, hc]), if_neg (show ¬ o3 i ≤ 0 by rw [n0, o3_le (by omega) (by omega)]; omega)]
        unfold isWd
        rw [decide_eq_true hc, ← e, hm]; rfl
      · rw [if_neg (show ¬ o3 (fr + i) = o3 en by rw [o3_eq (by omega) (by omega)]; omega)]
        unfold isWd
        rw [decide_eq_false hc]
        exact sk
    · rw [if_neg e] at ch
      have hp := sp_b2 ⟨w, hw⟩ ⟨i, by omega⟩ (by show i < lnW w; omega)
      have hp1 : 97 ≤ spW w i := hp.1
      have hp2 : spW w i ≤ 122 := hp.2
      have ne32 : ¬ o3 (spW w i) = 32 := by rw [show (32 : Int32) = o3 32 from rfl, o3_eq (by omega) (by omega)]; omega
      have bx := byte6 bo t (show fr + i < 1000 by omega)
      by_cases q : byV B Z (fr + i) = o3 (spW w i)
      · refine Or.inl ⟨o3 (i + 1), ?_, ⟨i + 1, by omega, rfl, by rw [mtV, hm, decide_eq_true q]; rfl⟩, ?_⟩
        · unfold BX6_wordHere_15
          simp only [e3, o3_add, ch, Option.bind_some, bx, if_neg ne32, if_pos q]
          rw [n1, o3_add]
        · show 10 - (o3 (i + 1)).toNatClampNeg < 10 - (o3 i).toNatClampNeg
          rw [o3_clamp (by omega), o3_clamp (by omega)]; omega
      · refine Or.inr ⟨_, ?_, rfl⟩
        have := mt_false q (lnW w - (i + 1))
        rw [show i + 1 + (lnW w - (i + 1)) = lnW w by omega] at this
        unfold isWd
        rw [this, Bool.and_false]
        unfold BX6_wordHere_15
        simp only [e3, o3_add, ch, Option.bind_some, bx, if_neg ne32, if_neg q]
        exact sk
  obtain ⟨q, q1, q2⟩ := key
  rw [← q2]
  exact q1
theorem word6 {n fr en : Nat} (bo : Bok B Z) (t : Tm h B Z) (e3 : h.1 71 13 = o3 fr) (e4 : h.1 71 14 = o3 en) (h1 : fr ≤ Z) (h2 : en ≤ Z) (hn : 300 ≤ n) : FX6_wordHere n h = some (wdI (wdV B Z fr en)) := by
  have key : ∃ q, aw_loop (BX6_wordHere_4 n h) n (o3 0, o3 (ofW 0)) = some q ∧ q = wdI (wdV B Z fr en) := by
    refine lp_wp (fun u => ∃ w, w ≤ 5 ∧ u = (o3 w, o3 (ofW w)) ∧ wfV B Z fr en (5 - w) = wdV B Z fr en) (fun u => 10 - u.1.toNatClampNeg) ?_ n _ ⟨0, by omega, rfl, rfl⟩ (by show 10 - _ < n; omega)
    rintro u ⟨w, hw, rfl, r⟩
    by_cases e : w = 5
    · rw [e] at r
      refine Or.inr ⟨-1, ?_, by rw [← r]; rfl⟩
      unfold BX6_wordHere_4
      rw [ln6, if_pos (show o3 26 ≤ (o3 w, o3 (ofW w)).2 by rw [e]; decide)]
    · have wl := wordL (n := n) (w := w) bo t (by omega) e3 e4 h1 h2 hn
      have hb4 : ofW w < 26 := (wd_b ⟨w, by omega⟩).2.2.2
      rw [show 5 - w = 5 - (w + 1) + 1 by omega, wfV, show 5 - (5 - (w + 1) + 1) = w by omega] at r
      have ev : BX6_wordHere_4 n h (o3 w, o3 (ofW w)) = some (bif isWd B Z fr en w then Sum.inr (o3 w) else Sum.inl (o3 (w + 1), o3 (ofW (w + 1)))) := by
        unfold BX6_wordHere_4
        rw [ln6, if_neg (show ¬ o3 26 ≤ (o3 w, o3 (ofW w)).2 by rw [o3_le (by omega) (by omega)]; omega)]
        exact wl
      rw [ev]
      cases hI : isWd B Z fr en w with
      | true =>
        rw [hI] at r
        refine Or.inr ⟨_, rfl, ?_⟩
        rw [← r]
        show o3 w = wdI w
        unfold wdI
        rw [if_neg e]
      | false =>
        rw [hI] at r
        refine Or.inl ⟨_, rfl, ⟨w + 1, by omega, rfl, r⟩, ?_⟩
        show 10 - (o3 (w + 1)).toNatClampNeg < 10 - (o3 w).toNatClampNeg
        rw [o3_clamp (by omega), o3_clamp (by omega)]; omega
  obtain ⟨q, q1, q2⟩ := key
  rw [← q2]
  exact q1
end LX2

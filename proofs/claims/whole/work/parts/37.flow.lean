/-! waters: a row of levels, and what both make of it -/
def sgn (b a : Int64) : Int32 := if a < b then 1 else if b < a then -1 else 0
def stA (w g : Int32) : Int32 := if g = 0 then 0 else if w = g then 0 else w
def nxW (w g : Int32) : Int32 := if g = 0 then w else g
def wyS (L : Nat → Int64) : Nat → Int32
  | 0 => 0
  | j + 1 => nxW (wyS L j) (sgn (L (j + 1)) (L j))
def evS (L : Nat → Int64) (s : Int32) (j : Nat) : Bool := decide (stA (wyS L j) (sgn (L (j + 1)) (L j)) = s)
def cntS (L : Nat → Int64) (s : Int32) : Nat → Nat
  | 0 => 0
  | j + 1 => bif evS L s j then cntS L s j + 1 else cntS L s j
def kthS (L : Nat → Int64) (f : Nat) (s : Int32) (k : Nat) : Nat → Int32
  | 0 => -1
  | j + 1 => if evS L s j = true ∧ cntS L s j = k then o3 (f + j) else kthS L f s k j
def bstS (L : Nat → Int64) (f : Nat) (s : Int32) : Nat → Int32 × Int64
  | 0 => (-1, 0)
  | j + 1 => if evS L s j = true ∧ ((bstS L f s j).1 = -1 ∨ (bstS L f s j).2 < L j * s.toInt64) then (o3 (f + j), L j * s.toInt64) else bstS L f s j
theorem sgn_c {b a : Int64} : sgn b a = 1 ∨ sgn b a = -1 ∨ sgn b a = 0 := by
  unfold sgn
  split
  · exact Or.inl rfl
  · split
    · exact Or.inr (Or.inl rfl)
    · exact Or.inr (Or.inr rfl)
theorem wyS_c {L : Nat → Int64} : ∀ j : Nat, wyS L j = 1 ∨ wyS L j = -1 ∨ wyS L j = 0
  | 0 => Or.inr (Or.inr rfl)
  | j + 1 => by
    rw [wyS]
    unfold nxW
    split
    · exact wyS_c j
    · exact sgn_c
theorem cntS_le {L : Nat → Int64} {s : Int32} : ∀ j : Nat, cntS L s j ≤ j
  | 0 => Nat.le_refl _
  | j + 1 => by
    have := cntS_le (L := L) (s := s) j
    rw [cntS]
    cases evS L s j <;> simp only [Bool.cond_true, Bool.cond_false] <;> omega
theorem start5 {h : aw_H} {a : Int64} : ∃ h', FX0_start a h = some h' ∧ h'.2 62 0 = a ∧ h'.1 62 1 = 0 ∧ Same (fun q => q = 62) h h' :=
  ⟨_, rfl, (show (aw_sL h 62 0 a).2 62 0 = a from sL_eq), sI_eq, (Same.sL (S := fun q => q = 62) rfl).trans (Same.sI (S := fun q => q = 62) rfl)⟩
theorem step5 {h : aw_H} {a b : Int64} {w : Int32} (e0 : h.2 62 0 = a) (e1 : h.1 62 1 = w) : ∃ h', FX0_step b h = some (stA w (sgn b a), h') ∧ h'.2 62 0 = b ∧ h'.1 62 1 = nxW w (sgn b a) ∧ Same (fun q => q = 62) h h' := by
  have c1 : (lg_cmp b (h.2 62 0) ≤ 0) ↔ b ≤ a := by rw [lg_cmp_le, e0]
  have c2 : (0 ≤ lg_cmp b (h.2 62 0)) ↔ a ≤ b := by rw [lg_cmp_ge, e0]
  have e2 : (aw_sL h 62 0 b).1 62 1 = w := e1
  have sm : Same (fun q => q = 62) h (aw_sL h 62 0 b) := Same.sL (S := fun q => q = 62) rfl
  unfold FX0_step
  rw [if_pos (show (0 : Int32) = 0 from rfl), if_neg (show ¬ (-1 : Int32) = 0 by decide), if_neg (show ¬ (1 : Int32) = 0 by decide), e2]
  by_cases h1 : a < b
  · have g : sgn b a = 1 := by unfold sgn; rw [if_pos h1]
    rw [if_neg (fun q => by have := c1.mp q; rw [Int64.le_iff_toInt_le] at this; rw [Int64.lt_iff_toInt_lt] at h1; omega), g]
    refine ⟨aw_sI (aw_sL h 62 0 b) 62 1 1, ?_, (show (aw_sL h 62 0 b).2 62 0 = b from sL_eq), sI_eq, sm.trans (Same.sI (S := fun q => q = 62) rfl)⟩
    unfold stA
    rw [if_neg (show ¬ (1 : Int32) = 0 by decide)]
    split <;> rfl
  · rw [if_pos (c1.mpr (by rw [Int64.le_iff_toInt_le]; rw [Int64.lt_iff_toInt_lt] at h1; omega))]
    by_cases h2 : b < a
    · have g : sgn b a = -1 := by unfold sgn; rw [if_neg h1, if_pos h2]
      rw [if_neg (fun q => by have := c2.mp q; rw [Int64.le_iff_toInt_le] at this; rw [Int64.lt_iff_toInt_lt] at h2; omega), g]
      refine ⟨aw_sI (aw_sL h 62 0 b) 62 1 (-1), ?_, (show (aw_sL h 62 0 b).2 62 0 = b from sL_eq), sI_eq, sm.trans (Same.sI (S := fun q => q = 62) rfl)⟩
      unfold stA
      rw [if_neg (show ¬ (-1 : Int32) = 0 by decide)]
      split <;> rfl
    · have g : sgn b a = 0 := by unfold sgn; rw [if_neg h1, if_neg h2]
      rw [if_pos (c2.mpr (by rw [Int64.le_iff_toInt_le]; rw [Int64.lt_iff_toInt_lt] at h2; omega)), g]
      exact ⟨aw_sL h 62 0 b, rfl, sL_eq, e2, sm⟩
theorem cmp6 {b a : Int64} : FJ13_compare_74951 b a = sgn b a := by
  unfold FJ13_compare_74951 sgn
  by_cases h1 : a < b
  · rw [if_pos h1, if_pos ((lg_cmp_ge _ _).mpr (by rw [Int64.le_iff_toInt_le]; rw [Int64.lt_iff_toInt_lt] at h1; omega)), if_neg (fun q => by have := (lg_cmp_eq _ _).mp q; subst this; exact Int64.lt_irrefl h1)]
  · rw [if_neg h1]
    by_cases h2 : b < a
    · rw [if_pos h2, if_neg (fun q => by have := (lg_cmp_ge _ _).mp q; rw [Int64.le_iff_toInt_le] at this; rw [Int64.lt_iff_toInt_lt] at h2; omega)]
    · rw [if_neg h2]
      have e : b = a := by
        rw [Int64.lt_iff_toInt_lt] at h1 h2
        exact Int64.toInt_inj.mp (by omega)
      subst e
      rw [if_pos ((lg_cmp_ge _ _).mpr (Int64.le_refl _)), if_pos ((lg_cmp_eq _ _).mpr rfl)]
theorem ev6 {w g s : Int32} (hw : w = 1 ∨ w = -1 ∨ w = 0) (hg : g = 1 ∨ g = -1 ∨ g = 0) (hs : s = 1 ∨ s = -1) : (stA w g = s ↔ (¬ 0 ≤ g * s ∧ ¬ w * s ≤ 0)) ∧ (if g * s = 0 then w * s else g * s) = nxW w g * s := by
  rcases hw with rfl | rfl | rfl <;> rcases hg with rfl | rfl | rfl <;> rcases hs with rfl | rfl <;> decide
/-- one step of the model's look -/
def lkM (h : aw_H) (t K : Int32) (b : Bool) : aw_H := bif b then aw_sI (aw_sI (aw_sI h 71 5 K) 71 3 (h.1 71 3 + 1)) 71 4 t else aw_sI (aw_sI h 71 5 K) 71 3 (h.1 71 3 + 1)
theorem lkM_same {h : aw_H} {t K : Int32} {b : Bool} : Same (fun q => q = 71) h (lkM h t K b) := by
  unfold lkM
  cases b
  · exact (Same.sI (S := fun q => q = 71) rfl).trans (Same.sI (S := fun q => q = 71) rfl)
  · exact ((Same.sI (S := fun q => q = 71) rfl).trans (Same.sI (S := fun q => q = 71) rfl)).trans (Same.sI (S := fun q => q = 71) rfl)
theorem lkM_r {h : aw_H} {t K : Int32} {b : Bool} : (lkM h t K b).1 71 2 = h.1 71 2 ∧ (lkM h t K b).1 71 12 = h.1 71 12 ∧ (lkM h t K b).1 71 3 = h.1 71 3 + 1 ∧ (lkM h t K b).1 71 4 = (bif b then t else h.1 71 4) ∧ (lkM h t K b).1 71 5 = K := by
  unfold lkM
  cases b <;> simp (disch := omega) only [Bool.cond_true, Bool.cond_false, sI_nk, sI_eq, and_self]
theorem look_no {n : Nat} {a1 a2 s a4 : Int32} {best here nx : Int64} {w : Int32} {t : Nat} {h : aw_H} {f N : Nat} (ha : a1 + a2 = o3 (f + N)) (ht : t < f + N) (hb : f + N < 2000000000) (hx : FX6_sumAt n (o3 (t + 1)) h = some nx) (hw : w = 1 ∨ w = -1 ∨ w = 0) (hs : s = 1 ∨ s = -1) (he : ¬ stA w (sgn nx here) = s) : BX6_looks_31 n a1 a2 s a4 (best, w * s, here, o3 t, h) = some (Sum.inl (best, nxW w (sgn nx here) * s, nx, o3 (t + 1), h)) := by
  have key := ev6 hw (sgn_c (b := nx) (a := here)) hs
  unfold BX6_looks_31
  rw [if_neg (show ¬ a1 + a2 ≤ o3 t by rw [ha, o3_le (by omega) (by omega)]; omega)]
  simp only [n1, o3_add]
  rw [hx]
  simp only [Option.bind_some, cmp6, ← key.2]
  by_cases h1 : 0 ≤ sgn nx here * s
  · rw [if_pos h1]
    split <;> rfl
  · rw [if_neg h1]
    by_cases h2 : w * s ≤ 0
    · rw [if_pos h2]
      split <;> rfl
    · exact absurd (key.1.mpr ⟨h1, h2⟩) he
theorem look_yes {n : Nat} {a1 a2 s a4 : Int32} {best here nx : Int64} {w : Int32} {t : Nat} {h : aw_H} {f N : Nat} (ha : a1 + a2 = o3 (f + N)) (ht : t < f + N) (hb : f + N < 2000000000) (hx : FX6_sumAt n (o3 (t + 1)) h = some nx) (hw : w = 1 ∨ w = -1 ∨ w = 0) (hs : s = 1 ∨ s = -1) (he : stA w (sgn nx here) = s) : BX6_looks_31 n a1 a2 s a4 (best, w * s, here, o3 t, h) = some (Sum.inl (if h.1 71 4 = -1 ∨ best < here * s.toInt64 then here * s.toInt64 else best, nxW w (sgn nx here) * s, nx, o3 (t + 1), lkM h (o3 t) (if h.1 71 3 = a4 then o3 t else h.1 71 5) (decide (h.1 71 4 = -1 ∨ best < here * s.toInt64)))) := by
  have key := ev6 hw (sgn_c (b := nx) (a := here)) hs
  obtain ⟨k1, k2⟩ := key.1.mp he
  unfold BX6_looks_31
  rw [if_neg (show ¬ a1 + a2 ≤ o3 t by rw [ha, o3_le (by omega) (by omega)]; omega)]
  have et : o3 t + 1 = o3 (t + 1) := by rw [n1, o3_add]
  simp only [et]
  rw [hx]
  simp only [Option.bind_some, cmp6]
  rw [if_neg k1, if_neg k2, ← key.2]
  have r1 : ∀ K : Int32, (aw_sI h 71 5 K).1 71 3 = h.1 71 3 := fun K => sI_nk (by omega)
  have r2 : ∀ K : Int32, (aw_sI (aw_sI h 71 5 K) 71 3 (h.1 71 3 + 1)).1 71 4 = h.1 71 4 := fun K => by rw [sI_nk (by omega), sI_nk (by omega)]
  simp only [r1, r2]
  by_cases h3 : h.1 71 3 = a4
  · rw [if_pos h3, if_pos h3]
    by_cases h4 : h.1 71 4 = -1
    · rw [if_pos h4, if_pos (Or.inl h4), decide_eq_true (Or.inl h4)]
      split <;> rfl
    · rw [if_neg h4]
      by_cases h5 : lg_cmp (here * s.toInt64) best ≤ 0
      · have h6 : ¬ (h.1 71 4 = -1 ∨ best < here * s.toInt64) := by
          rintro (q | q)
          · exact h4 q
          · have := (lg_cmp_le _ _).mp h5
            rw [Int64.le_iff_toInt_le] at this
            rw [Int64.lt_iff_toInt_lt] at q
            omega
        rw [if_pos h5, if_neg h6, decide_eq_false h6]
        split <;> rfl
      · have h6 : h.1 71 4 = -1 ∨ best < here * s.toInt64 := by
          refine Or.inr ?_
          rw [lg_cmp_le, Int64.le_iff_toInt_le] at h5
          rw [Int64.lt_iff_toInt_lt]
          omega
        rw [if_neg h5, if_pos h6, decide_eq_true h6]
        split <;> rfl
  · rw [if_neg h3, if_neg h3]
    by_cases h4 : h.1 71 4 = -1
    · rw [if_pos h4, if_pos (Or.inl h4), decide_eq_true (Or.inl h4)]
      split <;> rfl
    · rw [if_neg h4]
      by_cases h5 : lg_cmp (here * s.toInt64) best ≤ 0
      · have h6 : ¬ (h.1 71 4 = -1 ∨ best < here * s.toInt64) := by
          rintro (q | q)
          · exact h4 q
          · have := (lg_cmp_le _ _).mp h5
            rw [Int64.le_iff_toInt_le] at this
            rw [Int64.lt_iff_toInt_lt] at q
            omega
        rw [if_pos h5, if_neg h6, decide_eq_false h6]
        split <;> rfl
      · have h6 : h.1 71 4 = -1 ∨ best < here * s.toInt64 := by
          refine Or.inr ?_
          rw [lg_cmp_le, Int64.le_iff_toInt_le] at h5
          rw [Int64.lt_iff_toInt_lt]
          omega
        rw [if_neg h5, if_pos h6, decide_eq_true h6]
        split <;> rfl
def lvL (v : St) (f j : Nat) : Int64 := lvV v (f + j)
theorem looks6 {n : Nat} {h : aw_H} {v : St} {f N k : Nat} {s : Int32} (md : Mod h v) (ok : Ok v) (hf : f ≤ 99999) (hN : N ≤ 2000) (hk : k < 2147483648) (hs : s = 1 ∨ s = -1) (hn : 3000 ≤ n) : ∃ H, FX6_looks n (o3 f) (o3 N) s (o3 k) h = some H ∧ Same (fun q => q = 71) h H ∧ H.1 71 2 = h.1 71 2 ∧ H.1 71 12 = h.1 71 12 ∧ H.1 71 3 = o3 (cntS (lvL v f) s N) ∧ H.1 71 4 = (bstS (lvL v f) f s N).1 ∧ H.1 71 5 = kthS (lvL v f) f s k N := by
  obtain ⟨h0, hh0⟩ : ∃ h0, h0 = aw_sI (aw_sI (aw_sI h 71 3 0) 71 4 (-1)) 71 5 (-1) := ⟨_, rfl⟩
  have sm0 : Same (fun q => q = 71) h h0 := by
    rw [hh0]
    exact ((Same.sI (S := fun q => q = 71) rfl).trans (Same.sI (S := fun q => q = 71) rfl)).trans (Same.sI (S := fun q => q = 71) rfl)
  have md0 := md.fr sm0 (by omega)
  unfold FX6_looks
  rw [← hh0, sum6 md0 ok (by omega) (by omega)]
  simp only [Option.bind_some]
  refine lp_wp (fun u => ∃ j, j ≤ N ∧ u.1 = (bstS (lvL v f) f s j).2 ∧ u.2.1 = wyS (lvL v f) j * s ∧ u.2.2.1 = lvL v f j ∧ u.2.2.2.1 = o3 (f + j) ∧ Same (fun q => q = 71) h u.2.2.2.2 ∧ u.2.2.2.2.1 71 2 = h.1 71 2 ∧ u.2.2.2.2.1 71 12 = h.1 71 12 ∧ u.2.2.2.2.1 71 3 = o3 (cntS (lvL v f) s j) ∧ u.2.2.2.2.1 71 4 = (bstS (lvL v f) f s j).1 ∧ u.2.2.2.2.1 71 5 = kthS (lvL v f) f s k j) (fun u => f + N - u.2.2.2.1.toNatClampNeg) ?_ n _ ⟨0, by omega, rfl, ?_, rfl, rfl, sm0, ?_, ?_, ?_, ?_, ?_⟩ ?_
  · rintro ⟨best, la, here, t, u⟩ ⟨j, hj, r1, r2, r3, r4, r5, r6, r7, r8, r9, r10⟩
    replace r1 : best = (bstS (lvL v f) f s j).2 := r1
    replace r2 : la = wyS (lvL v f) j * s := r2
    replace r3 : here = lvL v f j := r3
    replace r4 : t = o3 (f + j) := r4
    replace r5 : Same (fun q => q = 71) h u := r5
    replace r6 : u.1 71 2 = h.1 71 2 := r6
    replace r7 : u.1 71 12 = h.1 71 12 := r7
    replace r8 : u.1 71 3 = o3 (cntS (lvL v f) s j) := r8
    replace r9 : u.1 71 4 = (bstS (lvL v f) f s j).1 := r9
    replace r10 : u.1 71 5 = kthS (lvL v f) f s k j := r10
    have hc := cntS_le (L := lvL v f) (s := s) j
    subst r2 r4
    by_cases e : j = N
    · refine Or.inr ⟨u, ?_, r5, r6, r7, by rw [r8, e], by rw [r9, e], by rw [r10, e]⟩
      unfold BX6_looks_31
      rw [if_pos (show o3 f + o3 N ≤ o3 (f + j) by rw [o3_add, e]; exact Int32.le_refl _)]
    · have hx : FX6_sumAt n (o3 (f + j + 1)) u = some (lvL v f (j + 1)) := sum6 (md.fr r5 (by omega)) ok (by omega) (by omega)
      have dec : f + N - (o3 (f + j + 1)).toNatClampNeg < f + N - (o3 (f + j)).toNatClampNeg := by
        rw [o3_clamp (by omega), o3_clamp (by omega)]; omega
      by_cases he : stA (wyS (lvL v f) j) (sgn (lvL v f (j + 1)) here) = s
      · have ee : evS (lvL v f) s j = true := by
          unfold evS
          rw [← r3]; exact decide_eq_true he
        refine Or.inl ⟨_, look_yes (o3_add f N) (by omega) (by omega) hx (wyS_c j) hs he, ⟨j + 1, by omega, ?_, ?_, rfl, rfl, r5.trans lkM_same, ?_, ?_, ?_, ?_, ?_⟩, dec⟩
        · show (if u.1 71 4 = -1 ∨ best < here * s.toInt64 then here * s.toInt64 else best) = (bstS (lvL v f) f s (j + 1)).2
          rw [bstS, r9, r1, r3]
          by_cases hc : (bstS (lvL v f) f s j).1 = -1 ∨ (bstS (lvL v f) f s j).2 < lvL v f j * s.toInt64
          · rw [if_pos hc, if_pos ⟨ee, hc⟩]
          · rw [if_neg hc, if_neg (fun q => hc q.2)]
        · show nxW (wyS (lvL v f) j) (sgn (lvL v f (j + 1)) here) * s = wyS (lvL v f) (j + 1) * s
          rw [wyS, r3]
        · show (lkM _ _ _ _).1 71 2 = _
          rw [lkM_r.1]; exact r6
        · show (lkM _ _ _ _).1 71 12 = _
          rw [lkM_r.2.1]; exact r7
        · show (lkM _ _ _ _).1 71 3 = _
          rw [lkM_r.2.2.1, r8, cntS, ee, n1, o3_add]; rfl
        · show (lkM _ _ _ _).1 71 4 = _
          rw [lkM_r.2.2.2.1, bstS, r9, r1, r3]
          by_cases hc : (bstS (lvL v f) f s j).1 = -1 ∨ (bstS (lvL v f) f s j).2 < lvL v f j * s.toInt64
          · rw [decide_eq_true hc, if_pos ⟨ee, hc⟩]; rfl
          · rw [decide_eq_false hc, if_neg (fun q => hc q.2)]; rfl
        · show (lkM _ _ _ _).1 71 5 = _
          rw [lkM_r.2.2.2.2, kthS, r8, r10]
          by_cases hc : cntS (lvL v f) s j = k
          · rw [if_pos (by rw [hc]), if_pos ⟨ee, hc⟩]
          · rw [if_neg (by rw [o3_eq (by omega) hk]; exact hc), if_neg (fun q => hc q.2)]
      · have ee : evS (lvL v f) s j = false := by
          unfold evS
          rw [← r3]; exact decide_eq_false he
        refine Or.inl ⟨_, look_no (o3_add f N) (by omega) (by omega) hx (wyS_c j) hs he, ⟨j + 1, by omega, ?_, ?_, rfl, rfl, r5, r6, r7, ?_, ?_, ?_⟩, dec⟩
        · show best = _
          rw [bstS, ee, if_neg (fun q => by cases q.1)]; exact r1
        · show nxW (wyS (lvL v f) j) (sgn (lvL v f (j + 1)) here) * s = wyS (lvL v f) (j + 1) * s
          rw [wyS, r3]
        · show u.1 71 3 = _
          rw [cntS, ee]; exact r8
        · show u.1 71 4 = _
          rw [bstS, ee, if_neg (fun q => by cases q.1)]; exact r9
        · show u.1 71 5 = _
          rw [kthS, ee, if_neg (fun q => by cases q.1)]; exact r10
  · show (0 : Int32) = wyS (lvL v f) 0 * s
    rw [show wyS (lvL v f) 0 = 0 from rfl]
    rcases hs with rfl | rfl <;> decide
  · show h0.1 71 2 = _
    rw [hh0]; simp (disch := omega) only [sI_nk]
  · show h0.1 71 12 = _
    rw [hh0]; simp (disch := omega) only [sI_nk]
  · show h0.1 71 3 = _
    rw [hh0]; simp (disch := omega) only [sI_nk, sI_eq]; rfl
  · show h0.1 71 4 = _
    rw [hh0]; simp (disch := omega) only [sI_nk, sI_eq]; rfl
  · show h0.1 71 5 = _
    rw [hh0]; simp (disch := omega) only [sI_nk, sI_eq]; rfl
  · show f + N - (o3 f).toNatClampNeg < n
    rw [o3_clamp (by omega)]; omega
/-! the class's two -/
def Bw (s : Int32) (n : Nat) (a1 : Int32) (a2 : Int32) (a3 : Int32) (u73 : (Int32 × Int32 × Int64 × Int32 × aw_H)) : Option ((Int32 × Int32 × Int64 × Int32 × aw_H) ⊕ (Int32 × aw_H)) :=
  (if (a1 + a2) ≤ u73.2.2.2.1 then (if (2 : Int32) ≤ a3 then some (Sum.inr (u73.2.1, u73.2.2.2.2)) else some (Sum.inr (u73.1, u73.2.2.2.2))) else ((FX4_level n (u73.2.2.2.1 + (1 : Int32)) u73.2.2.2.2).bind (fun q5 => ((FX0_step q5 u73.2.2.2.2).bind (fun q7 => (if q7.1 = s then (if u73.2.1 = (-1 : Int32) then some (Sum.inl ((u73.1 + (1 : Int32)), u73.2.2.2.1, (u73.2.2.2.2.2 62 0), (u73.2.2.2.1 + (1 : Int32)), q7.2)) else (if (lg_cmp (s.toInt64 * (u73.2.2.2.2.2 62 0)) (s.toInt64 * u73.2.2.1)) ≤ 0 then some (Sum.inl ((u73.1 + (1 : Int32)), u73.2.1, u73.2.2.1, (u73.2.2.2.1 + (1 : Int32)), q7.2)) else some (Sum.inl ((u73.1 + (1 : Int32)), u73.2.2.2.1, (u73.2.2.2.2.2 62 0), (u73.2.2.2.1 + (1 : Int32)), q7.2)))) else some (Sum.inl (u73.1, u73.2.1, u73.2.2.1, (u73.2.2.2.1 + (1 : Int32)), q7.2))))))))
theorem waters5 {n : Nat} {h h0 : aw_H} {v : St} {f N : Nat} {s a3 : Int32} (w : Wks h 1 3 v) (ok : Ok v) (hf : f ≤ 99999) (hN : N ≤ 2000) (hs : s = 1 ∨ s = -1) (hn : 3000 ≤ n) (s0 : Same (fun q => q = 62) h h0) (s1 : h0.2 62 0 = lvV v f) (s2 : h0.1 62 1 = 0) : ∃ q, aw_loop (Bw s n (o3 f) (o3 N) a3) n (0, -1, 0, o3 f, h0) = some q ∧ q.1 = (if (2 : Int32) ≤ a3 then (bstS (lvL v f) f s N).1 else o3 (cntS (lvL v f) s N)) ∧ Same (fun q => q = 62) h q.2 := by
  refine lp_wp (fun u => ∃ j, j ≤ N ∧ u.1 = o3 (cntS (lvL v f) s j) ∧ u.2.1 = (bstS (lvL v f) f s j).1 ∧ s.toInt64 * u.2.2.1 = (bstS (lvL v f) f s j).2 ∧ u.2.2.2.1 = o3 (f + j) ∧ Same (fun q => q = 62) h u.2.2.2.2 ∧ u.2.2.2.2.2 62 0 = lvL v f j ∧ u.2.2.2.2.1 62 1 = wyS (lvL v f) j) (fun u => f + N - u.2.2.2.1.toNatClampNeg) ?_ n _ ⟨0, by omega, rfl, rfl, ?_, rfl, s0, s1, s2⟩ ?_
  · rintro ⟨c, tk, ut, t, u⟩ ⟨j, hj, r1, r2, r3, r4, r5, r6, r7⟩
    replace r1 : c = o3 (cntS (lvL v f) s j) := r1
    replace r2 : tk = (bstS (lvL v f) f s j).1 := r2
    replace r3 : s.toInt64 * ut = (bstS (lvL v f) f s j).2 := r3
    replace r4 : t = o3 (f + j) := r4
    replace r5 : Same (fun q => q = 62) h u := r5
    replace r6 : u.2 62 0 = lvL v f j := r6
    replace r7 : u.1 62 1 = wyS (lvL v f) j := r7
    subst r4
    by_cases e : j = N
    · refine Or.inr ⟨(if (2 : Int32) ≤ a3 then tk else c, u), ?_, ?_, r5⟩
      · unfold Bw
        rw [if_pos (show o3 f + o3 N ≤ o3 (f + j) by rw [o3_add, e]; exact Int32.le_refl _)]
        split <;> rfl
      · show (if (2 : Int32) ≤ a3 then tk else c) = _
        rw [r1, r2, e]
    · have wu := w.fr r5 (by omega) (fun q q1 q2 => by omega)
      have hx : FX4_level n (o3 (f + j + 1)) u = some (lvL v f (j + 1)) := level5 wu ok (by omega) (by omega)
      obtain ⟨u', g1, g2, g3, g4⟩ := step5 (h := u) (b := lvL v f (j + 1)) r6 r7
      have dec : f + N - (o3 (f + j + 1)).toNatClampNeg < f + N - (o3 (f + j)).toNatClampNeg := by
        rw [o3_clamp (by omega), o3_clamp (by omega)]; omega
      have et : o3 (f + j) + 1 = o3 (f + j + 1) := by rw [n1, o3_add]
      have sm := r5.trans g4
      refine Or.inl ⟨(o3 (cntS (lvL v f) s (j + 1)), (bstS (lvL v f) f s (j + 1)).1, if evS (lvL v f) s j = true ∧ ((bstS (lvL v f) f s j).1 = -1 ∨ (bstS (lvL v f) f s j).2 < lvL v f j * s.toInt64) then lvL v f j else ut, o3 (f + j + 1), u'), ?_, ⟨j + 1, by omega, rfl, rfl, ?_, rfl, sm, g2, by rw [g3, wyS]⟩, dec⟩
      · unfold Bw
        rw [if_neg (show ¬ o3 f + o3 N ≤ o3 (f + j) by rw [o3_add, o3_le (by omega) (by omega)]; omega)]
        simp only [et, hx, Option.bind_some, g1]
        rw [r6, Int64.mul_comm s.toInt64 (lvL v f j), r3, cntS, bstS]
        by_cases he : stA (wyS (lvL v f) j) (sgn (lvL v f (j + 1)) (lvL v f j)) = s
        · have ee : evS (lvL v f) s j = true := decide_eq_true he
          have ec1 : o3 (cntS (lvL v f) s j) + 1 = o3 (cntS (lvL v f) s j + 1) := by rw [n1, o3_add]
          rw [if_pos he, ee, r2, r1, ec1]
          by_cases h4 : (bstS (lvL v f) f s j).1 = -1
          · rw [if_pos h4, if_pos ⟨rfl, Or.inl h4⟩, if_pos ⟨rfl, Or.inl h4⟩]; rfl
          · rw [if_neg h4]
            by_cases h5 : lg_cmp (lvL v f j * s.toInt64) (bstS (lvL v f) f s j).2 ≤ 0
            · have h6 : ¬ (true = true ∧ ((bstS (lvL v f) f s j).1 = -1 ∨ (bstS (lvL v f) f s j).2 < lvL v f j * s.toInt64)) := by
                rintro ⟨-, q | q⟩
                · exact h4 q
                · have := (lg_cmp_le _ _).mp h5
                  rw [Int64.le_iff_toInt_le] at this
                  rw [Int64.lt_iff_toInt_lt] at q
                  omega
              rw [if_pos h5, if_neg h6, if_neg h6]; rfl
            · have h6 : (bstS (lvL v f) f s j).1 = -1 ∨ (bstS (lvL v f) f s j).2 < lvL v f j * s.toInt64 := by
                refine Or.inr ?_
                rw [lg_cmp_le, Int64.le_iff_toInt_le] at h5
                rw [Int64.lt_iff_toInt_lt]
                omega
              rw [if_neg h5, if_pos ⟨rfl, h6⟩, if_pos ⟨rfl, h6⟩]; rfl
        · have ee : evS (lvL v f) s j = false := decide_eq_false he
          rw [if_neg he, ee, if_neg (fun q => by cases q.1), if_neg (fun q => by cases q.1), r1, r2]; rfl
      · show s.toInt64 * (if evS (lvL v f) s j = true ∧ ((bstS (lvL v f) f s j).1 = -1 ∨ (bstS (lvL v f) f s j).2 < lvL v f j * s.toInt64) then lvL v f j else ut) = (bstS (lvL v f) f s (j + 1)).2
        rw [bstS]
        by_cases hc : evS (lvL v f) s j = true ∧ ((bstS (lvL v f) f s j).1 = -1 ∨ (bstS (lvL v f) f s j).2 < lvL v f j * s.toInt64)
        · rw [if_pos hc, if_pos hc]
          exact Int64.mul_comm _ _
        · rw [if_neg hc, if_neg hc]; exact r3
  · show s.toInt64 * 0 = 0
    exact Int64.mul_zero
  · show f + N - (o3 f).toNatClampNeg < n
    rw [o3_clamp (by omega)]; omega
theorem aw_g (a2 : Int32) (m : Nat) (M : Int32) (K : Int64) (hM : M = o3 m) (hK : K = o6 m) (hm : 1 ≤ m ∧ m ≤ 5000) (a1 : Int32) : (¬ FX5_isTick a1 = 0 → FX5_within a2 1 M = 0 → FX6_areWaters a1 a2 M = 0) ∧ (FX5_isTick a1 = 0 → FX6_areWaters a1 a2 M = 0) ∧ (¬ FX5_isTick a1 = 0 → ¬ FX5_within a2 1 M = 0 → ¬ FX6_areWaters a1 a2 M = 0 ∧ ∃ f N : Nat, a1 = o3 f ∧ f ≤ 99999 ∧ a2 = o3 N ∧ 1 ≤ N ∧ N ≤ m) := by
  have eM : M.toInt64 = o6 m := by rw [hM, o3_i2l (by omega)]
  refine ⟨fun h1 h2 => ?_, fun h1 => ?_, fun h1 h2 => ?_⟩
  · rcases rng a2 1 M 1 M.toInt64 1 m rfl hM rfl eM (by omega) (by omega) with ⟨f1, f2, -⟩ | ⟨x, -, -, -, c4, -⟩
    · unfold FX6_areWaters
      rw [f2]
      split
      · rfl
      · rfl
    · exact absurd h2 c4
  · rcases tick_g a1 with ⟨f1, f2⟩ | ⟨t, -, -, c3, -⟩
    · unfold FX6_areWaters
      rw [if_pos f2]
    · exact absurd h1 c3
  · rcases tick_g a1 with ⟨f1, f2⟩ | ⟨t, t1, t2, t3, t4⟩
    · exact absurd f1 h1
    rcases rng a2 1 M 1 M.toInt64 1 m rfl hM rfl eM (by omega) (by omega) with ⟨f1, f2, -⟩ | ⟨x, c1, c2, c3, c4, c5⟩
    · exact absurd f1 h2
    refine ⟨?_, t, x, t1, t2, c1, c2, c3⟩
    unfold FX6_areWaters
    rw [if_neg t4, if_neg c5]
    decide
theorem c_waters {n : Nat} {h : aw_H} (k : Rel h) (hn : 3000 ≤ n) (a1 a2 a3 : Int32) : Sim (FX5_waters n a1 a2 a3 h) (FX6_waters n a1 a2 a3) := by
  obtain ⟨v, ok, w, md⟩ := k.1
  obtain ⟨q1, q2, q3⟩ := aw_g a2 2000 2000 2000 rfl rfl (by omega) a1
  by_cases t0 : FX5_isTick a1 = 0
  · exact ⟨-2, h, h, by simp only [FX5_waters, t0, if_true], by simp only [FX6_waters, q2 t0, if_true], k⟩
  by_cases t1 : FX5_within a2 1 2000 = 0
  · exact ⟨-2, h, h, by simp only [FX5_waters, t0, t1, if_true, if_false], by simp only [FX6_waters, q1 t0 t1, if_true], k⟩
  obtain ⟨q4, f, N, e1, e2, e3, e4, e5⟩ := q3 t0 t1
  rcases rng a3 0 3 0 3 0 3 rfl rfl rfl rfl (by omega) (by omega) with ⟨f1, f2, -⟩ | ⟨x, c1, c2, c3, c4, c5⟩
  · exact ⟨-2, h, h, by simp only [FX5_waters, t0, t1, f1, if_true, if_false], by simp only [FX6_waters, q4, f2, if_true, if_false], k⟩
  subst e1 e3 c1
  obtain ⟨h0, g1, g2, g3, g4⟩ := start5 (h := h) (a := lvV v f)
  have l5 := level5 (n := n) w ok (show f ≤ 200000 by omega) (by omega)
  have fin : ∀ s : Int32, (s = 1 ∨ s = -1) → (FX5_waters n (o3 f) (o3 N) (o3 x) h = aw_loop (Bw s n (o3 f) (o3 N) (o3 x)) n (0, -1, 0, o3 f, h0)) → (∀ H, FX6_waters n (o3 f) (o3 N) (o3 x) H = ((FX6_looks n (o3 f) (o3 N) s (o3 0) H).bind (fun q3 => (if (2 : Int32) ≤ o3 x then some ((q3.1 71 4), q3) else some ((q3.1 71 3), q3))))) → Sim (FX5_waters n (o3 f) (o3 N) (o3 x) h) (FX6_waters n (o3 f) (o3 N) (o3 x)) := by
    intro s hs p1 p2
    obtain ⟨q, r1, r2, r3⟩ := waters5 (a3 := o3 x) w ok e2 e5 hs hn g4 g2 g3
    obtain ⟨H, y1, y2, y3, y4, y5, y6, y7⟩ := looks6 (n := n) (h := q.2) (k := 0) (md.fr r3 (by omega)) ok e2 e5 (by omega) hs hn
    refine ⟨q.1, q.2, H, by rw [p1, r1], ?_, ?_⟩
    · rw [p2, y1]
      simp only [Option.bind_some]
      rw [r2, y5, y6]
      split <;> rfl
    · refine k.fr ((r3.mono (fun q hq => ?_)).trans (y2.mono (fun q hq => ?_))) ?_ ?_ ?_
      · unfold Scr; omega
      · unfold Scr; omega
      · rw [y3, (r3 71 (by omega)).1]
      · rw [(y2 54 (by omega)).1, (r3 54 (by omega)).1]
      · rw [y4, (r3 71 (by omega)).1]
  have em : o3 x - o3 x / 2 * 2 = o3 (x % 2) := o3_mod (b := 2) (by omega) (by omega)
  rcases (show x = 0 ∨ x = 1 ∨ x = 2 ∨ x = 3 by omega) with rfl | rfl | rfl | rfl
  · refine fin 1 (Or.inl rfl) ?_ (fun H => ?_)
    · unfold FX5_waters
      rw [if_neg t0, if_neg t1, if_neg c4, if_pos (show o3 0 = 0 from rfl), l5]
      simp only [Option.bind_some, g1]
      rfl
    · unfold FX6_waters
      rw [if_neg q4, if_neg c5, em, if_pos (show o3 (0 % 2) = 0 from rfl)]
      rfl
  · refine fin (-1) (Or.inr rfl) ?_ (fun H => ?_)
    · unfold FX5_waters
      rw [if_neg t0, if_neg t1, if_neg c4, if_neg (show ¬ o3 1 = 0 by decide), if_neg (show ¬ o3 1 = 2 by decide), l5]
      simp only [Option.bind_some, g1]
      rfl
    · unfold FX6_waters
      rw [if_neg q4, if_neg c5, em, if_neg (show ¬ o3 (1 % 2) = 0 by decide)]
      rfl
  · refine fin 1 (Or.inl rfl) ?_ (fun H => ?_)
    · unfold FX5_waters
      rw [if_neg t0, if_neg t1, if_neg c4, if_neg (show ¬ o3 2 = 0 by decide), if_pos (show o3 2 = 2 from rfl), l5]
      simp only [Option.bind_some, g1]
      rfl
    · unfold FX6_waters
      rw [if_neg q4, if_neg c5, em, if_pos (show o3 (2 % 2) = 0 from rfl)]
      rfl
  · refine fin (-1) (Or.inr rfl) ?_ (fun H => ?_)
    · unfold FX5_waters
      rw [if_neg t0, if_neg t1, if_neg c4, if_neg (show ¬ o3 3 = 0 by decide), if_neg (show ¬ o3 3 = 2 by decide), l5]
      simp only [Option.bind_some, g1]
      rfl
    · unfold FX6_waters
      rw [if_neg q4, if_neg c5, em, if_neg (show ¬ o3 (3 % 2) = 0 by decide)]
      rfl
/-! water: the k-th one -/
theorem cntS_mono {L : Nat → Int64} {s : Int32} {i : Nat} : ∀ d : Nat, cntS L s i ≤ cntS L s (i + d)
  | 0 => Nat.le_refl _
  | d + 1 => by
    have := cntS_mono (L := L) (s := s) (i := i) d
    rw [← Nat.add_assoc, cntS]
    cases evS L s (i + d) <;> simp only [Bool.cond_true, Bool.cond_false] <;> omega
theorem kthS_stay {L : Nat → Int64} {f k i : Nat} {s : Int32} (hi : k < cntS L s i) : ∀ d : Nat, kthS L f s k (i + d) = kthS L f s k i
  | 0 => rfl
  | d + 1 => by
    have := cntS_mono (L := L) (s := s) (i := i) d
    rw [← Nat.add_assoc, kthS, if_neg (fun q => by omega)]
    exact kthS_stay hi d
def Bv (s : Int32) (n : Nat) (a1 : Int32) (a2 : Int32) (a4 : Int32) (u67 : (Int32 × Int32 × aw_H)) : Option ((Int32 × Int32 × aw_H) ⊕ (Int32 × aw_H)) :=
  (if (a1 + a2) ≤ u67.2.1 then some (Sum.inr ((-1 : Int32), u67.2.2)) else ((FX4_level n (u67.2.1 + (1 : Int32)) u67.2.2).bind (fun q5 => ((FX0_step q5 u67.2.2).bind (fun q7 => (if q7.1 = s then (if u67.1 = a4 then some (Sum.inr (u67.2.1, q7.2)) else some (Sum.inl ((u67.1 + (1 : Int32)), (u67.2.1 + (1 : Int32)), q7.2))) else some (Sum.inl (u67.1, (u67.2.1 + (1 : Int32)), q7.2))))))))
theorem water5 {n : Nat} {h h0 : aw_H} {v : St} {f N k : Nat} {s : Int32} (w : Wks h 1 3 v) (ok : Ok v) (hf : f ≤ 99999) (hN : N ≤ 2000) (hk : k < 2147483648) (hn : 3000 ≤ n) (s0 : Same (fun q => q = 62) h h0) (s1 : h0.2 62 0 = lvV v f) (s2 : h0.1 62 1 = 0) : ∃ q, aw_loop (Bv s n (o3 f) (o3 N) (o3 k)) n (0, o3 f, h0) = some q ∧ q.1 = kthS (lvL v f) f s k N ∧ Same (fun q => q = 62) h q.2 := by
  refine lp_wp (fun u => ∃ j, j ≤ N ∧ u.1 = o3 (cntS (lvL v f) s j) ∧ cntS (lvL v f) s j ≤ k ∧ kthS (lvL v f) f s k j = -1 ∧ u.2.1 = o3 (f + j) ∧ Same (fun q => q = 62) h u.2.2 ∧ u.2.2.2 62 0 = lvL v f j ∧ u.2.2.1 62 1 = wyS (lvL v f) j) (fun u => f + N - u.2.1.toNatClampNeg) ?_ n _ ⟨0, by omega, rfl, Nat.zero_le _, rfl, rfl, s0, s1, s2⟩ ?_
  · rintro ⟨c, t, u⟩ ⟨j, hj, r1, r2, r3, r4, r5, r6, r7⟩
    replace r1 : c = o3 (cntS (lvL v f) s j) := r1
    replace r4 : t = o3 (f + j) := r4
    replace r5 : Same (fun q => q = 62) h u := r5
    replace r6 : u.2 62 0 = lvL v f j := r6
    replace r7 : u.1 62 1 = wyS (lvL v f) j := r7
    subst r1 r4
    have hc := cntS_le (L := lvL v f) (s := s) j
    by_cases e : j = N
    · refine Or.inr ⟨(-1, u), ?_, by rw [← e, r3], r5⟩
      unfold Bv
      rw [if_pos (show o3 f + o3 N ≤ o3 (f + j) by rw [o3_add, e]; exact Int32.le_refl _)]
    · have wu := w.fr r5 (by omega) (fun q q1 q2 => by omega)
      have hx : FX4_level n (o3 (f + j + 1)) u = some (lvL v f (j + 1)) := level5 wu ok (by omega) (by omega)
      obtain ⟨u', g1, g2, g3, g4⟩ := step5 (h := u) (b := lvL v f (j + 1)) r6 r7
      have dec : f + N - (o3 (f + j + 1)).toNatClampNeg < f + N - (o3 (f + j)).toNatClampNeg := by
        rw [o3_clamp (by omega), o3_clamp (by omega)]; omega
      have et : o3 (f + j) + 1 = o3 (f + j + 1) := by rw [n1, o3_add]
      have sm := r5.trans g4
      have hB : Bv s n (o3 f) (o3 N) (o3 k) (o3 (cntS (lvL v f) s j), o3 (f + j), u) = (if stA (wyS (lvL v f) j) (sgn (lvL v f (j + 1)) (lvL v f j)) = s then (if o3 (cntS (lvL v f) s j) = o3 k then some (Sum.inr (o3 (f + j), u')) else some (Sum.inl (o3 (cntS (lvL v f) s j + 1), o3 (f + j + 1), u'))) else some (Sum.inl (o3 (cntS (lvL v f) s j), o3 (f + j + 1), u'))) := by
        unfold Bv
        rw [if_neg (show ¬ o3 f + o3 N ≤ o3 (f + j) by rw [o3_add, o3_le (by omega) (by omega)]; omega)]
        simp only [et, hx, Option.bind_some, g1]
        rw [n1, o3_add]
      rw [hB]
      by_cases he : stA (wyS (lvL v f) j) (sgn (lvL v f (j + 1)) (lvL v f j)) = s
      · have ee : evS (lvL v f) s j = true := decide_eq_true he
        have ec : cntS (lvL v f) s (j + 1) = cntS (lvL v f) s j + 1 := by rw [cntS, ee]; rfl
        rw [if_pos he]
        by_cases hq : cntS (lvL v f) s j = k
        · refine Or.inr ⟨(o3 (f + j), u'), by rw [if_pos (by rw [hq])], ?_, sm⟩
          have := kthS_stay (L := lvL v f) (f := f) (k := k) (i := j + 1) (s := s) (by omega) (N - (j + 1))
          rw [show j + 1 + (N - (j + 1)) = N by omega] at this
          rw [this, kthS, if_pos ⟨ee, hq⟩]
        · refine Or.inl ⟨(o3 (cntS (lvL v f) s j + 1), o3 (f + j + 1), u'), by rw [if_neg (by rw [o3_eq (by omega) hk]; exact hq)], ⟨j + 1, by omega, by rw [ec], by omega, ?_, rfl, sm, g2, by rw [g3, wyS]⟩, dec⟩
          rw [kthS, if_neg (fun q => hq q.2)]; exact r3
      · have ee : evS (lvL v f) s j = false := decide_eq_false he
        have ec : cntS (lvL v f) s (j + 1) = cntS (lvL v f) s j := by rw [cntS, ee]; rfl
        rw [if_neg he]
        refine Or.inl ⟨(o3 (cntS (lvL v f) s j), o3 (f + j + 1), u'), rfl, ⟨j + 1, by omega, by rw [ec], by omega, ?_, rfl, sm, g2, by rw [g3, wyS]⟩, dec⟩
        rw [kthS, if_neg (fun q => by rw [ee] at q; cases q.1)]; exact r3
  · show f + N - (o3 f).toNatClampNeg < n
    rw [o3_clamp (by omega)]; omega
theorem c_water {n : Nat} {h : aw_H} (k : Rel h) (hn : 3000 ≤ n) (a1 a2 a3 a4 : Int32) : Sim (FX5_water n a1 a2 a3 a4 h) (FX6_water n a1 a2 a3 a4) := by
  obtain ⟨v, ok, w, md⟩ := k.1
  obtain ⟨q1, q2, q3⟩ := aw_g a2 2000 2000 2000 rfl rfl (by omega) a1
  by_cases t0 : FX5_isTick a1 = 0
  · exact ⟨-2, h, h, by simp only [FX5_water, t0, if_true], by simp only [FX6_water, q2 t0, if_true], k⟩
  by_cases t1 : FX5_within a2 1 2000 = 0
  · exact ⟨-2, h, h, by simp only [FX5_water, t0, t1, if_true, if_false], by simp only [FX6_water, q1 t0 t1, if_true], k⟩
  obtain ⟨q4, f, N, e1, e2, e3, e4, e5⟩ := q3 t0 t1
  rcases line_g a3 with ⟨f1, f2⟩ | ⟨x, c1, c2, c3, c4⟩
  · exact ⟨-2, h, h, by simp only [FX5_water, t0, t1, f1, if_true, if_false], by simp only [FX6_water, q4, f2, if_true, if_false], k⟩
  by_cases hk : 0 ≤ a4
  · obtain ⟨z, z1, -, z2⟩ := o3_of (x := a4) (by rw [Int32.le_iff_toInt_le] at hk; exact hk)
    subst e1 e3 c1 z1
    obtain ⟨h0, g1, g2, g3, g4⟩ := start5 (h := h) (a := lvV v f)
    have l5 := level5 (n := n) w ok (show f ≤ 200000 by omega) (by omega)
    have fin : ∀ s : Int32, (s = 1 ∨ s = -1) → (FX5_water n (o3 f) (o3 N) (o3 x) (o3 z) h = aw_loop (Bv s n (o3 f) (o3 N) (o3 z)) n (0, o3 f, h0)) → (∀ H, FX6_water n (o3 f) (o3 N) (o3 x) (o3 z) H = ((FX6_looks n (o3 f) (o3 N) s (o3 z) H).bind (fun q3 => some ((q3.1 71 5), q3)))) → Sim (FX5_water n (o3 f) (o3 N) (o3 x) (o3 z) h) (FX6_water n (o3 f) (o3 N) (o3 x) (o3 z)) := by
      intro s hs p1 p2
      obtain ⟨q, r1, r2, r3⟩ := water5 (s := s) w ok e2 e5 z2 hn g4 g2 g3
      obtain ⟨H, y1, y2, y3, y4, y5, y6, y7⟩ := looks6 (n := n) (h := q.2) (k := z) (md.fr r3 (by omega)) ok e2 e5 z2 hs hn
      refine ⟨q.1, q.2, H, by rw [p1, r1], ?_, ?_⟩
      · rw [p2, y1]
        simp only [Option.bind_some]
        rw [r2, y7]
      · refine k.fr ((r3.mono (fun q hq => ?_)).trans (y2.mono (fun q hq => ?_))) ?_ ?_ ?_
        · unfold Scr; omega
        · unfold Scr; omega
        · rw [y3, (r3 71 (by omega)).1]
        · rw [(y2 54 (by omega)).1, (r3 54 (by omega)).1]
        · rw [y4, (r3 71 (by omega)).1]
    rcases (show x = 0 ∨ x = 1 by omega) with rfl | rfl
    · refine fin 1 (Or.inl rfl) ?_ (fun H => ?_)
      · unfold FX5_water
        rw [if_neg t0, if_neg t1, if_neg c3, if_pos hk, if_pos (show o3 0 = 0 from rfl), l5]
        simp only [Option.bind_some, g1]
        rfl
      · unfold FX6_water
        rw [if_neg q4, if_neg c4, if_pos hk, if_pos (show o3 0 = 0 from rfl)]
    · refine fin (-1) (Or.inr rfl) ?_ (fun H => ?_)
      · unfold FX5_water
        rw [if_neg t0, if_neg t1, if_neg c3, if_pos hk, if_neg (show ¬ o3 1 = 0 by decide), l5]
        simp only [Option.bind_some, g1]
        rfl
      · unfold FX6_water
        rw [if_neg q4, if_neg c4, if_pos hk, if_neg (show ¬ o3 1 = 0 by decide)]
  · exact ⟨-2, h, h, by simp only [FX5_water, t0, t1, c3, hk, if_false], by simp only [FX6_water, q4, c4, hk, if_false], k⟩

/-! tells: what was told against the levels -/
theorem sheet_g (a : Int32) : (FX5_isSheet a = 0 ∧ FX6_isSheet a = 0) ∨ (∃ i : Nat, a = o3 i ∧ i < 4 ∧ ¬ FX5_isSheet a = 0 ∧ ¬ FX6_isSheet a = 0) := by
  rcases rng a 0 3 0 3 0 3 rfl rfl rfl rfl (by omega) (by omega) with ⟨f1, f2, -⟩ | ⟨x, c1, -, c3, c4, c5⟩
  · exact Or.inl ⟨f1, f2⟩
  · exact Or.inr ⟨x, c1, by omega, c4, c5⟩
theorem itemOf6 {h : aw_H} {i k : Nat} (hi : i < 4) (hk : k < 40) : FX6_itemOf (o3 i) (o3 k) h = some (h.2 76 (40 * i + k)) := by
  unfold FX6_itemOf
  rw [n40, o3_mul, o3_add, if_pos ((o3_inb (by omega)).mpr (by omega)), o3_clamp (by omega)]
/-! how one part's trait changes the level -/
theorem upv_self {v : St} {i : Nat} : upv v i (v i) = v := by
  funext j
  by_cases e : j = i
  · rw [e, upv_eq]
  · rw [upv_ne e]
theorem upv_upv {v : St} {i x y : Nat} : upv (upv v i y) i x = upv v i x := by
  funext j
  by_cases e : j = i
  · rw [e, upv_eq, upv_eq]
  · rw [upv_ne e, upv_ne e, upv_ne e]
theorem hbV_congr {v v' : St} {p T : Nat} (h4 : v (11 * p + 4) ≤ 3) (e7 : v' 67 = v 67) (e : ∀ i, i < 11 → v' (11 * p + i) = v (11 * p + i)) : hbV v' p T = hbV v p T := by
  have e0 : v' (11 * p) = v (11 * p) := e 0 (by omega)
  have eA := spA_congr h4 e7 (fun i _ hi => e i hi)
  have eB := spB_congr h4 (fun i _ hi => e i hi)
  unfold hbV shapeV spotN wayN driftN plainN
  rw [eA, eB, e0, e 1 (by omega), e 2 (by omega), e 3 (by omega)]
theorem lv_change {v : St} (ok : Ok v) {p t x T : Nat} (hp : p < v 66) (ht : t < 4) : lvV (upv v (11 * p + t) x) T = lvV v T - hbV v p T + hbV (upv v (11 * p + t) x) p T := by
  have h66 := ok.1
  have other : ∀ j, j < 6 → j ≠ p → hbV (upv v (11 * p + t) x) j T = hbV v j T := fun j hj hne => hbV_congr (ok.2.2.2 j hj).2.2.2.2.1 (upv_ne (by omega)) (fun i hi => upv_ne (by omega))
  have low : ∀ k, k ≤ p → sumV (upv v (11 * p + t) x) T k = sumV v T k := by
    intro k
    induction k with
    | zero => intro _; rfl
    | succ k ih => intro hk; rw [sumV, sumV, ih (by omega), other k (by omega) (by omega)]
  have high : ∀ d, p + 1 + d ≤ 6 → sumV (upv v (11 * p + t) x) T (p + 1 + d) = sumV v T (p + 1 + d) - hbV v p T + hbV (upv v (11 * p + t) x) p T := by
    intro d
    induction d with
    | zero =>
      intro _
      rw [Nat.add_zero, sumV, sumV, low p (Nat.le_refl _), Int64.add_sub_cancel]
    | succ d ih =>
      intro hd
      rw [← Nat.add_assoc, sumV, sumV, ih (by omega), other (p + 1 + d) (by omega) (by omega), Int64.sub_eq_add_neg, Int64.sub_eq_add_neg]
      ac_rfl
  unfold lvV
  rw [upv_ne (by omega)]
  have := high (v 66 - (p + 1)) (by omega)
  rw [show p + 1 + (v 66 - (p + 1)) = v 66 by omega] at this
  exact this
theorem ok_change {v : St} (ok : Ok v) {p t x : Nat} (hp : p < 6) (ht : t < 4) (hx : x ≤ mostN t) : Ok (upv v (11 * p + t) x) := by
  refine ok.whl (p := p) (upv_ne (by omega)) (upv_ne (by omega)) (upv_ne (by omega)) (fun j hj hne i hi => upv_ne (by omega)) ?_
  obtain ⟨k0, k1, k2, k3, k4, k5⟩ := ok.2.2.2 p hp
  rcases (show t = 0 ∨ t = 1 ∨ t = 2 ∨ t = 3 by omega) with rfl | rfl | rfl | rfl
  · refine ⟨by rw [Nat.add_zero, upv_eq]; exact hx, by rw [upv_ne (by omega)]; exact k1, by rw [upv_ne (by omega)]; exact k2, by rw [upv_ne (by omega)]; exact k3, by rw [upv_ne (by omega)]; exact k4, fun i hi => ?_⟩
    rw [upv_ne (by omega)] at hi
    rw [upv_ne (by omega), upv_ne (by omega)]; exact k5 i hi
  · refine ⟨by rw [upv_ne (by omega)]; exact k0, by rw [upv_eq]; exact hx, by rw [upv_ne (by omega)]; exact k2, by rw [upv_ne (by omega)]; exact k3, by rw [upv_ne (by omega)]; exact k4, fun i hi => ?_⟩
    rw [upv_ne (by omega)] at hi
    rw [upv_ne (by omega), upv_ne (by omega)]; exact k5 i hi
  · refine ⟨by rw [upv_ne (by omega)]; exact k0, by rw [upv_ne (by omega)]; exact k1, by rw [upv_eq]; exact hx, by rw [upv_ne (by omega)]; exact k3, by rw [upv_ne (by omega)]; exact k4, fun i hi => ?_⟩
    rw [upv_ne (by omega)] at hi
    rw [upv_ne (by omega), upv_ne (by omega)]; exact k5 i hi
  · refine ⟨by rw [upv_ne (by omega)]; exact k0, by rw [upv_ne (by omega)]; exact k1, by rw [upv_ne (by omega)]; exact k2, by rw [upv_eq]; exact hx, by rw [upv_ne (by omega)]; exact k4, fun i hi => ?_⟩
    rw [upv_ne (by omega)] at hi
    rw [upv_ne (by omega), upv_ne (by omega)]; exact k5 i hi
/-! the wheel in thought -/
theorem cI_r {h : aw_H} {a b n : Nat} {q : Nat} : (aw_cI h a b 0 0 n).1 q = if q = b then (fun k => if k < n then h.1 a k else h.1 b k) else h.1 q := by
  show (if q = b then va_cpy (h.1 a) (h.1 b) 0 0 n else h.1 q) = _
  by_cases e : q = b
  · rw [if_pos e, if_pos e]
    funext k
    unfold va_cpy
    by_cases hk : k < n
    · rw [if_pos ⟨by omega, by omega⟩, if_pos hk, Nat.zero_add, Nat.sub_zero]
    · rw [if_neg (by omega), if_neg hk]
  · rw [if_neg e, if_neg e]
theorem cI_ne {h : aw_H} {a b n : Nat} {q : Nat} (e : ¬ q = b) : (aw_cI h a b 0 0 n).1 q = h.1 q := by
  rw [cI_r, if_neg e]
theorem cI_in {h : aw_H} {a b n k : Nat} (hk : k < n) : (aw_cI h a b 0 0 n).1 b k = h.1 a k := by
  rw [cI_r, if_pos rfl, if_pos hk]
theorem Same.cI {S : Nat → Prop} {h : aw_H} {a b n : Nat} (hb : S b) : Same S h (aw_cI h a b 0 0 n) := fun q hq => ⟨cI_ne (fun e => hq (e ▸ hb)), Eq.refl _⟩
theorem become5 {h : aw_H} {a b : Nat} (hab : a + 4 ≤ b ∨ b + 4 ≤ a) : ∃ H, FX3_become a b h = some H ∧ Same (fun q => a ≤ q ∧ q < a + 4) h H ∧ (∀ k, k < 4 → H.1 (a + 1) k = h.1 (b + 1) k) ∧ H.1 a 3 = h.1 b 3 ∧ (∀ k, k < 3 → H.1 (a + 2) k = h.1 (b + 2) k ∧ H.1 (a + 3) k = h.1 (b + 3) k) ∧ H.2 a 4 = h.2 b 4 ∧ H.2 a 5 = h.2 b 5 := by
  obtain ⟨H1, hH1⟩ : ∃ H1, H1 = aw_cI (aw_cI (aw_cI h (b + 1) (a + 1) 0 0 4) (b + 2) (a + 2) 0 0 3) (b + 3) (a + 3) 0 0 3 := ⟨_, rfl⟩
  have s1 : Same (fun q => a ≤ q ∧ q < a + 4) h H1 := by
    rw [hH1]
    exact ((Same.cI (by omega)).trans (Same.cI (by omega))).trans (Same.cI (by omega))
  refine ⟨aw_sL (aw_sL (aw_sI H1 a 3 (h.1 b 3)) a 4 (h.2 b 4)) a 5 (h.2 b 5), ?_, ?_, fun k hk => ?_, ?_, fun k hk => ⟨?_, ?_⟩, ?_, ?_⟩
  · unfold FX3_become
    rw [show (0 : Int32).toNatClampNeg = 0 from rfl, show (4 : Int32).toNatClampNeg = 4 from rfl, show (3 : Int32).toNatClampNeg = 3 from rfl, ← hH1]
    have e1 : H1.1 b 3 = h.1 b 3 := by rw [(s1 b (by omega)).1]
    have e2 : (aw_sI H1 a 3 (h.1 b 3)).2 b 4 = h.2 b 4 := by
      show H1.2 b 4 = _
      rw [(s1 b (by omega)).2]
    have e3 : (aw_sL (aw_sI H1 a 3 (h.1 b 3)) a 4 (h.2 b 4)).2 b 5 = h.2 b 5 := by
      rw [sL_ne (by omega)]
      show H1.2 b 5 = _
      rw [(s1 b (by omega)).2]
    rw [e1, e2, e3]
  · exact ((s1.trans (Same.sI (by omega))).trans (Same.sL (by omega))).trans (Same.sL (by omega))
  · show (aw_sI H1 a 3 (h.1 b 3)).1 (a + 1) k = _
    rw [sI_ne (by omega), hH1, cI_ne (by omega), cI_ne (by omega), cI_in hk]
  · show (aw_sI H1 a 3 (h.1 b 3)).1 a 3 = _
    rw [sI_eq]
  · show (aw_sI H1 a 3 (h.1 b 3)).1 (a + 2) k = _
    rw [sI_ne (by omega), hH1, cI_ne (by omega), cI_in hk, cI_ne (by omega)]
  · show (aw_sI H1 a 3 (h.1 b 3)).1 (a + 3) k = _
    rw [sI_ne (by omega), hH1, cI_in hk, cI_ne (by omega), cI_ne (by omega)]
  · rw [sL_nk (by omega), sL_eq]
  · rw [sL_eq]
theorem become_w {h : aw_H} {a b p : Nat} {v : St} (hab : a + 4 ≤ b ∨ b + 4 ≤ a) (wh : Whl h b v p) : ∃ H, FX3_become a b h = some H ∧ Same (fun q => a ≤ q ∧ q < a + 4) h H ∧ Whl H a v p ∧ (Spd h b v p → Spd H a v p) := by
  obtain ⟨H, e1, e2, e3, e4, e5, e6, e7⟩ := become5 (h := h) hab
  obtain ⟨k1, k2, k3⟩ := wh
  exact ⟨H, e1, e2, ⟨fun k hk => by rw [e3 k hk]; exact k1 k hk, by rw [e4]; exact k2, fun k hk => by rw [(e5 k hk).1, (e5 k hk).2]; exact k3 k hk⟩, fun sp => ⟨by rw [e6]; exact sp.1, by rw [e7]; exact sp.2⟩⟩
def ThS (q : Nat) : Prop := 57 ≤ q ∧ q < 62
/-- the class thinks of part p -/
def Thk (h : aw_H) (v : St) (p f m : Nat) : Prop := Spd h 57 v p ∧ ∀ k, k < m → h.2 61 k = lvV v (f + k) - hbV v p (f + k)
theorem think5 {n : Nat} {h : aw_H} {v : St} {p f m : Nat} (w : Wks h 1 3 v) (ok : Ok v) (hp : p < v 66) (hf : f ≤ 99999) (hm : m ≤ 201) (hn : 3000 ≤ n) : ∃ H, FX5_think n (3 + 4 * p) (o3 f) (o3 m) h = some H ∧ Same ThS h H ∧ Whl H 57 v p ∧ Thk H v p f m := by
  have h66 := ok.1
  obtain ⟨wh, sp⟩ := w.2.2.2 p (by omega)
  obtain ⟨H0, e1, e2, e3, e4⟩ := become_w (a := 57) (by omega) wh
  have e4 := e4 (sp hp)
  have e2' : Same ThS h H0 := e2.mono (fun q hq => by unfold ThS; omega)
  unfold FX5_think
  rw [e1]
  simp only [Option.bind_some]
  refine lp_wp (fun u => ∃ i, i ≤ m ∧ u.1 = o3 i ∧ Same ThS h u.2 ∧ Whl u.2 57 v p ∧ Spd u.2 57 v p ∧ ∀ k, k < i → u.2.2 61 k = lvV v (f + k) - hbV v p (f + k)) (fun u => 300 - u.1.toNatClampNeg) ?_ n _ ⟨0, by omega, rfl, e2', e3, e4, fun k hk => absurd hk (by omega)⟩ (by show 300 - _ < n; omega)
  rintro ⟨i', u⟩ ⟨i, hi, r1, r2, r3, r4, r5⟩
  replace r1 : i' = o3 i := r1
  replace r2 : Same ThS h u := r2
  replace r3 : Whl u 57 v p := r3
  replace r4 : Spd u 57 v p := r4
  replace r5 : ∀ k, k < i → u.2 61 k = lvV v (f + k) - hbV v p (f + k) := r5
  subst r1
  by_cases e : i = m
  · refine Or.inr ⟨u, ?_, r2, r3, r4, by rw [← e]; exact r5⟩
    unfold BX5_think_11
    rw [if_pos (show o3 m ≤ o3 i by rw [e]; exact Int32.le_refl _)]
  · have wu : Wks u 1 3 v := w.fr r2 (by unfold ThS; omega) (fun q q1 q2 => by unfold ThS; omega)
    have hx := level5 (n := n) (t := f + i) wu ok (by omega) (by omega)
    obtain ⟨whu, spu⟩ := wu.2.2.2 p (by omega)
    have hy := swing5 (t := f + i) whu (spu hp) (ok.2.2.2 p (by omega)) ok.2.1.2 (by omega)
    have ef : o3 f + o3 i = o3 (f + i) := o3_add f i
    refine Or.inl ⟨(o3 (i + 1), aw_sL u 61 i (lvV v (f + i) - hbV v p (f + i))), ?_, ⟨i + 1, by omega, rfl, r2.trans (Same.sL (show ThS 61 by unfold ThS; omega)), r3, ?_, fun k hk => ?_⟩, ?_⟩
    · unfold BX5_think_11
      rw [if_neg (show ¬ o3 m ≤ o3 i by rw [o3_le (by omega) (by omega)]; omega), if_neg (show ¬ (201 : Int32) ≤ o3 i by rw [show (201 : Int32) = o3 201 from rfl, o3_le (by omega) (by omega)]; omega)]
      simp only [ef, hx, hy, Option.bind_some]
      rw [if_pos ((o3_inb (by omega)).mpr (by omega)), o3_clamp (by omega), n1, o3_add]
    · exact r4.fr (Same.sL (S := fun q => q = 61) rfl) (by omega)
    · show (aw_sL u 61 i _).2 61 k = _
      by_cases ek : k = i
      · rw [ek, sL_eq]
      · rw [sL_nk ek]; exact r5 k (by omega)
    · show 300 - (o3 (i + 1)).toNatClampNeg < 300 - (o3 i).toNatClampNeg
      rw [o3_clamp (by omega), o3_clamp (by omega)]; omega
/-- setting a trait of the wheel in thought -/
theorem think_set {h : aw_H} {v : St} {p t x y : Nat} (ht : t < 4) (wh : Whl h 57 (upv v (11 * p + t) y) p) : Whl (aw_sI h 58 t (o3 x)) 57 (upv v (11 * p + t) x) p := by
  obtain ⟨k1, k2, k3⟩ := wh
  refine ⟨fun k hk => ?_, ?_, fun k hk => ?_⟩
  · have := k1 k hk
    by_cases e : k = t
    · subst e
      rw [upv_eq]; exact sI_eq
    · rw [upv_ne (by omega)] at this ⊢
      rw [← this]
      exact sI_nk e
  · rw [upv_ne (by omega)] at k2 ⊢
    rw [sI_ne (by omega)]; exact k2
  · have := k3 k hk
    rw [upv_ne (by omega), upv_ne (by omega)] at this ⊢
    rw [sI_ne (by omega), sI_ne (by omega)]; exact this
/-- the row of the sheet, by both -/
def Rw (h : aw_H) (i z : Nat) (row : Nat → Int64) : Prop := h.1 (63 + 2 * i) 2 = o3 z ∧ ∀ k, k < 40 → h.2 (63 + 2 * i + 1) k = row k
def Rm (h : aw_H) (i z : Nat) (row : Nat → Int64) : Prop := h.1 75 i = o3 z ∧ ∀ k, k < 40 → h.2 76 (40 * i + k) = row k
def firV (v : St) (row : Nat → Int64) (f z : Nat) : Int32 := jamN (fun k => decide (row k = lvV v (f + k))) z z
theorem lg_dec {a b : Int64} {α : Type} {x y : α} : (if lg_cmp a b = 0 then x else y) = bif decide (a = b) then x else y := by
  by_cases e : a = b
  · rw [if_pos ((lg_cmp_eq _ _).mpr e), decide_eq_true e]; rfl
  · rw [if_neg (fun q => e ((lg_cmp_eq _ _).mp q)), decide_eq_false e]; rfl
theorem first5 {n : Nat} {h : aw_H} {v : St} {i z f : Nat} {row : Nat → Int64} (w : Wks h 1 3 v) (ok : Ok v) (r : Rw h i z row) (hz : z ≤ 40) (hf : f ≤ 99999) (hn : 3000 ≤ n) : FX5_firstOtherwise n (63 + 2 * i) (o3 f) h = some (firV v row f z) := by
  have hl := jam_loop (B := BX5_firstOtherwise_2 n (63 + 2 * i) (o3 f) h) (P := z) (f := fun k => decide (row k = lvV v (f + k))) (fun k hk => by
    unfold BX5_firstOtherwise_2
    rw [if_neg (show ¬ h.1 (63 + 2 * i) 2 ≤ o3 k by rw [r.1, o3_le (by omega) (by omega)]; omega), if_pos ((o3_inb (by omega)).mpr (by omega)), o3_add, level5 w ok (show f + k ≤ 200000 by omega) (by omega), o3_clamp (by omega), r.2 k (by omega)]
    simp only [Option.bind_some]
    rw [n1, o3_add]
    exact lg_dec) (by
    unfold BX5_firstOtherwise_2
    rw [if_pos (show h.1 (63 + 2 * i) 2 ≤ o3 z by rw [r.1]; exact Int32.le_refl _)]) z n (by omega) (Nat.le_refl _)
  rw [Nat.sub_self] at hl
  exact hl
theorem first6 {n : Nat} {h : aw_H} {v : St} {i z f : Nat} {row : Nat → Int64} (md : Mod h v) (ok : Ok v) (r : Rm h i z row) (hi : i < 4) (hz : z ≤ 40) (hf : f ≤ 99999) (hn : 3000 ≤ n) : FX6_firstOther n (o3 i) (o3 f) h = some (firV v row f z) := by
  have ib : aw_inb (o3 i) 4 = true := (o3_inb (by omega)).mpr hi
  have hl := jam_loop (B := BX6_firstOther_2 n (o3 i) (o3 f) h) (P := z) (f := fun k => decide (row k = lvV v (f + k))) (fun k hk => by
    unfold BX6_firstOther_2
    rw [if_pos ib, o3_clamp (show i < 2147483648 by omega), if_neg (show ¬ h.1 75 i ≤ o3 k by rw [r.1, o3_le (by omega) (by omega)]; omega), o3_add, sum6 md ok (show f + k ≤ 200000 by omega) (by omega), itemOf6 hi (by omega), r.2 k (by omega)]
    simp only [Option.bind_some]
    rw [n1, o3_add, lg_dec, show decide (lvV v (f + k) = row k) = decide (row k = lvV v (f + k)) from decide_eq_decide.mpr eq_comm]) (by
    unfold BX6_firstOther_2
    rw [if_pos ib, o3_clamp (show i < 2147483648 by omega), if_pos (show h.1 75 i ≤ o3 z by rw [r.1]; exact Int32.le_refl _)]) z n (by omega) (Nat.le_refl _)
  rw [Nat.sub_self] at hl
  exact hl
/-- all so, if the part p had x for its trait t -/
def soV (v : St) (row : Nat → Int64) (f z p t x : Nat) : Bool := decide (firV (upv v (11 * p + t) x) row f z = -1)
theorem all5 {n : Nat} {h : aw_H} {v : St} {i z f p t x : Nat} {row : Nat → Int64} (ok : Ok v) (hp : p < v 66) (ht : t < 4) (hx : x ≤ mostN t) (r : Rw h i z row) (th : Thk h v p f z) (wh : Whl h 57 (upv v (11 * p + t) x) p) (hz : z ≤ 8) (hf : f ≤ 99999) (hn : 3000 ≤ n) : FX5_isAllSo n (63 + 2 * i) (o3 f) h = some (bif soV v row f z p t x then 1 else 0) := by
  have h66 := ok.1
  have ok' := ok_change ok (show p < 6 by omega) ht hx
  have sp : Spd h 57 (upv v (11 * p + t) x) p := th.1.congr (ok.2.2.2 p (by omega)).2.2.2.2.1 (upv_ne (by omega)) (fun i h1 h2 => upv_ne (by omega))
  have key : ∃ q, aw_loop (BX5_isAllSo_2 (63 + 2 * i) (o3 f) h) n (o3 0) = some q ∧ q = bif soV v row f z p t x then 1 else 0 := by
    refine lp_wp (fun u => ∃ k, k ≤ z ∧ u = o3 k ∧ jamN (fun k => decide (row k = lvV (upv v (11 * p + t) x) (f + k))) z (z - k) = firV (upv v (11 * p + t) x) row f z) (fun u => 300 - u.toNatClampNeg) ?_ n _ ⟨0, by omega, rfl, rfl⟩ (by show 300 - _ < n; omega)
    rintro u ⟨k, hk, rfl, hj⟩
    by_cases e : k = z
    · refine Or.inr ⟨1, ?_, ?_⟩
      · unfold BX5_isAllSo_2
        rw [if_pos (show h.1 (63 + 2 * i) 2 ≤ o3 k by rw [r.1, e]; exact Int32.le_refl _)]
      · rw [e, Nat.sub_self] at hj
        have : soV v row f z p t x = true := by
          unfold soV
          rw [← hj]; rfl
        rw [this]; rfl
    · have hs := swing5 (t := f + k) wh sp (ok'.2.2.2 p (by omega)) ok'.2.1.2 (by omega)
      have ev : BX5_isAllSo_2 (63 + 2 * i) (o3 f) h (o3 k) = (if lg_cmp (row k) (lvV (upv v (11 * p + t) x) (f + k)) = 0 then some (Sum.inl (o3 (k + 1))) else some (Sum.inr 0)) := by
        unfold BX5_isAllSo_2
        rw [if_neg (show ¬ h.1 (63 + 2 * i) 2 ≤ o3 k by rw [r.1, o3_le (by omega) (by omega)]; omega), if_neg (show ¬ (201 : Int32) ≤ o3 k by rw [show (201 : Int32) = o3 201 from rfl, o3_le (by omega) (by omega)]; omega), if_pos ((o3_inb (by omega)).mpr (by omega)), if_pos ((o3_inb (by omega)).mpr (by omega)), o3_add, hs, o3_clamp (by omega), r.2 k (by omega), th.2 k (by omega)]
        simp only [Option.bind_some]
        rw [← lv_change ok hp ht, n1, o3_add]
      have hd : z - k = z - (k + 1) + 1 := by omega
      rw [hd, jamN, show z - (z - (k + 1) + 1) = k by omega] at hj
      rw [ev]
      by_cases eq : row k = lvV (upv v (11 * p + t) x) (f + k)
      · rw [decide_eq_true eq] at hj
        refine Or.inl ⟨o3 (k + 1), by rw [if_pos ((lg_cmp_eq _ _).mpr eq)], ⟨k + 1, by omega, rfl, hj⟩, ?_⟩
        show 300 - (o3 (k + 1)).toNatClampNeg < 300 - (o3 k).toNatClampNeg
        rw [o3_clamp (by omega), o3_clamp (by omega)]; omega
      · rw [decide_eq_false eq] at hj
        refine Or.inr ⟨0, by rw [if_neg (fun q => eq ((lg_cmp_eq _ _).mp q))], ?_⟩
        have : soV v row f z p t x = false := by
          unfold soV
          rw [← hj]
          exact decide_eq_false (o3_ne_neg1 (by omega))
        rw [this]; rfl
  obtain ⟨q, q1, q2⟩ := key
  rw [← q2]
  exact q1

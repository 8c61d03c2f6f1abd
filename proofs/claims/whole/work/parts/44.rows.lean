/-! copy, film, load -/
theorem cL_at {h : aw_H} {a b sp dp n q k : Nat} : (aw_cL h a b sp dp n).2 q k = if q = b ∧ dp ≤ k ∧ k < dp + n then h.2 a (sp + (k - dp)) else h.2 q k := by
  show (if q = b then va_cpy (h.2 a) (h.2 b) sp dp n else h.2 q) k = _
  by_cases e : q = b
  · rw [if_pos e]
    unfold va_cpy
    by_cases hk : dp ≤ k ∧ k < dp + n
    · rw [if_pos hk, if_pos ⟨e, hk⟩]
    · rw [if_neg hk, if_neg (fun c => hk c.2), e]
  · rw [if_neg e, if_neg (fun c => e c.1)]
theorem Same.cL {S : Nat → Prop} {h : aw_H} {a b sp dp n : Nat} (hb : S b) : Same S h (aw_cL h a b sp dp n) := fun q hq => ⟨Eq.refl _, by
  show (if q = b then va_cpy (h.2 a) (h.2 b) sp dp n else h.2 q) = h.2 q
  rw [if_neg (show ¬ q = b from fun e => hq (e ▸ hb))]⟩
theorem cpok {a b m : Nat} {U0 U1 : Nat} (ha : a < 2147483648) (hb : b < 2147483648) (hm : m < 2147483648) (h1 : a + m ≤ U0) (h2 : b + m ≤ U1) : aw_cpok (o3 a) (o3 b) (o3 m) U0 U1 = true := by
  have z : ∀ x, x < 2147483648 → decide (o3 x < 0) = false := fun x hx => decide_eq_false (by rw [n0, o3_lt hx (by omega)]; omega)
  unfold aw_cpok
  rw [z a ha, z b hb, z m hm, o3_clamp ha, o3_clamp hb, o3_clamp hm, decide_eq_true h1, decide_eq_true h2]
  rfl
theorem c_copy {h : aw_H} (k : Rel h) (a1 a2 a3 a4 a5 : Int32) : Sim (FX5_copy a1 a2 a3 a4 a5 h) (FX6_copy a1 a2 a3 a4 a5) := by
  rcases sheet_g a1 with ⟨f1, f2⟩ | ⟨i, i1, i2, i3, i4⟩
  · exact ⟨-2, h, h, by simp only [FX5_copy, f1, if_true], by simp only [FX6_copy, f2, if_true], k⟩
  rcases sheet_g a3 with ⟨f1, f2⟩ | ⟨j, j1, j2, j3, j4⟩
  · exact ⟨-2, h, h, by simp only [FX5_copy, i3, f1, if_true, if_false], by simp only [FX6_copy, i4, f2, if_true, if_false], k⟩
  subst i1 j1
  have ib : aw_inb (o3 i) 4 = true := (o3_inb (by omega)).mpr i2
  have ic : (o3 i).toNatClampNeg = i := o3_clamp (by omega)
  have jb : aw_inb (o3 j) 4 = true := (o3_inb (by omega)).mpr j2
  have jc : (o3 j).toNatClampNeg = j := o3_clamp (by omega)
  obtain ⟨z, z1, z2, z3, s1, -, s3⟩ := sht_at k.2.2.1 i2
  obtain ⟨y, y1, y2, y3, t1, -, t3⟩ := sht_at k.2.2.1 j2
  by_cases hm : h.1 74 i = -1
  · have m1 : FX1_isMissing (63 + 2 * i) h = 1 := by unfold FX1_isMissing; rw [s1, if_pos hm]
    exact ⟨-11, h, h, by simp only [FX5_copy, i3, j3, ib, ic, jb, m1, one_ne, if_true, if_false], by simp only [FX6_copy, i4, j4, ib, ic, hm, if_true, if_false], k⟩
  have m1 : FX1_isMissing (63 + 2 * i) h = 0 := by unfold FX1_isMissing; rw [s1, if_neg hm]
  by_cases hm2 : h.1 74 j = -1
  · have m2 : FX1_isMissing (63 + 2 * j) h = 1 := by unfold FX1_isMissing; rw [t1, if_pos hm2]
    exact ⟨-11, h, h, by simp only [FX5_copy, i3, j3, ib, ic, jb, jc, m1, m2, one_ne, if_true, if_false], by simp only [FX6_copy, i4, j4, ib, ic, jb, jc, hm, hm2, if_true, if_false], k⟩
  have m2 : FX1_isMissing (63 + 2 * j) h = 0 := by unfold FX1_isMissing; rw [t1, if_neg hm2]
  by_cases hq : h.1 74 i = h.1 74 j
  · have hq5 : h.1 (63 + 2 * i) 1 = h.1 (63 + 2 * j) 1 := by rw [s1, t1]; exact hq
    have b2l := a2.toInt_lt
    have b2g := a2.le_toInt
    have b4l := a4.toInt_lt
    have b4g := a4.le_toInt
    have b5l := a5.toInt_lt
    have b5g := a5.le_toInt
    have hs := holds_iff (h := h) (a := a2.toInt64) (m := a5) z2 z1 (by rw [Int32.toInt_toInt64]; omega) (by rw [Int32.toInt_toInt64]; omega)
    have ht := holds_iff (h := h) (a := a4.toInt64) (m := a5) y2 y1 (by rw [Int32.toInt_toInt64]; omega) (by rw [Int32.toInt_toInt64]; omega)
    rw [Int32.toInt_toInt64] at hs ht
    have c5 : (a5 < 0) ↔ a5.toInt < 0 := by rw [Int32.lt_iff_toInt_lt]; rfl
    have c2 : (a2 < 0) ↔ a2.toInt < 0 := by rw [Int32.lt_iff_toInt_lt]; rfl
    have c4 : (a4 < 0) ↔ a4.toInt < 0 := by rw [Int32.lt_iff_toInt_lt]; rfl
    by_cases n5 : a5.toInt < 0
    · refine ⟨-12, h, h, ?_, ?_, k⟩
      · simp only [FX5_copy, i3, j3, ib, ic, jb, jc, m1, m2, hq5, hs.mpr (by omega), if_true, if_false]
      · simp only [FX6_copy, i4, j4, ib, ic, jb, jc, hm, hm2, hq, c5.mpr n5, if_true, if_false]
    have q5 : ¬ a5 < 0 := fun q => n5 (c5.mp q)
    by_cases n2' : a2.toInt < 0
    · refine ⟨-12, h, h, ?_, ?_, k⟩
      · simp only [FX5_copy, i3, j3, ib, ic, jb, jc, m1, m2, hq5, hs.mpr (by omega), if_true, if_false]
      · simp only [FX6_copy, i4, j4, ib, ic, jb, jc, hm, hm2, hq, q5, c2.mpr n2', if_true, if_false]
    have q2 : ¬ a2 < 0 := fun q => n2' (c2.mp q)
    have e75 : ∀ w b : Nat, w ≤ 40 → h.1 75 b = o3 w → (h.1 75 b - a5).toInt = (w : Int) - a5.toInt := fun w b hw hb => by
      rw [hb, Int32.toInt_sub, o3_toInt (by omega), b32 (by omega) (by omega)]
    have es := e75 z i z1 z3
    have et := e75 y j y1 y3
    by_cases n4' : a4.toInt < 0
    · refine ⟨-12, h, h, ?_, ?_, k⟩
      · by_cases hh : FX1_holds (63 + 2 * i) a2.toInt64 a5 h = 0
        · simp only [FX5_copy, i3, j3, ib, ic, jb, jc, m1, m2, hq5, hh, if_true, if_false]
        · simp only [FX5_copy, i3, j3, ib, ic, jb, jc, m1, m2, hq5, hh, ht.mpr (by omega), if_true, if_false]
      · simp only [FX6_copy, i4, j4, ib, ic, jb, jc, hm, hm2, hq, q5, q2, c4.mpr n4', if_true, if_false]
    have q4 : ¬ a4 < 0 := fun q => n4' (c4.mp q)
    have d1 : (h.1 75 i - a5 < a2) ↔ (z : Int) - a5.toInt < a2.toInt := by rw [Int32.lt_iff_toInt_lt, es]
    have d2 : (a4 ≤ h.1 75 j - a5) ↔ a4.toInt ≤ (y : Int) - a5.toInt := by rw [Int32.le_iff_toInt_le, et]
    by_cases ns : (z : Int) - a5.toInt < a2.toInt
    · refine ⟨-12, h, h, ?_, ?_, k⟩
      · simp only [FX5_copy, i3, j3, ib, ic, jb, jc, m1, m2, hq5, hs.mpr (by omega), if_true, if_false]
      · simp only [FX6_copy, i4, j4, ib, ic, jb, jc, hm, hm2, hq, q5, q2, q4, d1.mpr ns, if_true, if_false]
    have q6 : ¬ h.1 75 i - a5 < a2 := fun q => ns (d1.mp q)
    have hh : ¬ FX1_holds (63 + 2 * i) a2.toInt64 a5 h = 0 := fun q => (hs.mp q) (by omega)
    by_cases nt : a4.toInt ≤ (y : Int) - a5.toInt
    · have hh2 : ¬ FX1_holds (63 + 2 * j) a4.toInt64 a5 h = 0 := fun q => (ht.mp q) (by omega)
      have q7 := d2.mpr nt
      obtain ⟨x, x1, x2, x3⟩ := o3_of (x := a2) (by omega)
      obtain ⟨u, u1, u2, u3⟩ := o3_of (x := a4) (by omega)
      obtain ⟨m, p1, p2, p3⟩ := o3_of (x := a5) (by omega)
      have k1 : x + m ≤ 40 := by omega
      have k2 : u + m ≤ 40 := by omega
      subst x1 u1 p1
      have xc : (o3 x).toNatClampNeg = x := o3_clamp x3
      have uc : (o3 u).toNatClampNeg = u := o3_clamp u3
      have mc : (o3 m).toNatClampNeg = m := o3_clamp p3
      have w1 := cpok (a := x) (b := u) (m := m) (U0 := 40) (U1 := 40) (by omega) (by omega) (by omega) k1 k2
      have e1 : (40 : Int32) * o3 i + o3 x = o3 (40 * i + x) := by rw [n40, o3_mul, o3_add]
      have e2 : (40 : Int32) * o3 j + o3 u = o3 (40 * j + u) := by rw [n40, o3_mul, o3_add]
      have w2 : aw_cpok (o3 (40 * i + x)) 0 (o3 m) 160 40 = true := cpok (a := 40 * i + x) (b := 0) (m := m) (U0 := 160) (U1 := 40) (by omega) (by omega) (by omega) (by omega) (by omega)
      have w3 : aw_cpok 0 (o3 (40 * j + u)) (o3 m) 40 160 = true := cpok (a := 0) (b := 40 * j + u) (m := m) (U0 := 40) (U1 := 160) (by omega) (by omega) (by omega) (by omega) (by omega)
      have xc2 : (o3 (40 * i + x)).toNatClampNeg = 40 * i + x := o3_clamp (by omega)
      have uc2 : (o3 (40 * j + u)).toNatClampNeg = 40 * j + u := o3_clamp (by omega)
      have zc : (0 : Int32).toNatClampNeg = 0 := rfl
      obtain ⟨H, hH⟩ : ∃ H, H = aw_cL h (63 + 2 * i + 1) (63 + 2 * j + 1) x u m := ⟨_, rfl⟩
      have sH : Same (fun q => q = 63 + 2 * j + 1) h H := by rw [hH]; exact Same.cL rfl
      have H1 : H.1 = h.1 := by rw [hH]; rfl
      refine ⟨o3 m, H, aw_cL (aw_cL H 76 81 (40 * i + x) 0 m) 81 76 0 (40 * j + u) m, ?_, ?_, ?_⟩
      · simp only [FX5_copy, i3, j3, ib, ic, jb, jc, m1, m2, hq5, hh, hh2, w1, xc, uc, mc, hH, if_true, if_false]
      · simp only [FX6_copy, H1, i4, j4, ib, ic, jb, jc, hm, hm2, hq, q5, q2, q4, q6, q7, e1, e2, w2, w3, xc2, uc2, mc, zc, if_true, if_false]
      · refine k.sheets (((sH.mono (fun q hq => ?_)).trans (Same.cL (show ShS 81 by unfold ShS; omega))).trans (Same.cL (show ShS 76 by unfold ShS; omega))) (fun l hl => ?_)
        · unfold ShS; omega
        · obtain ⟨r1, r2, r3⟩ := k.2.2.1 l hl
          have a1' : (aw_cL (aw_cL H 76 81 (40 * i + x) 0 m) 81 76 0 (40 * j + u) m).1 = h.1 := H1
          rw [a1']
          have H76 : ∀ q, H.2 76 q = h.2 76 q := fun q => by rw [(sH 76 (by omega)).2]
          have A : ∀ b, (aw_cL (aw_cL H 76 81 (40 * i + x) 0 m) 81 76 0 (40 * j + u) m).2 (63 + 2 * l + 1) b = if 63 + 2 * l + 1 = 63 + 2 * j + 1 ∧ u ≤ b ∧ b < u + m then h.2 (63 + 2 * i + 1) (x + (b - u)) else h.2 (63 + 2 * l + 1) b := fun b => by
            rw [cL_at, if_neg (by omega), cL_at, if_neg (by omega), hH, cL_at]
          have B : ∀ c, (aw_cL (aw_cL H 76 81 (40 * i + x) 0 m) 81 76 0 (40 * j + u) m).2 76 c = if 40 * j + u ≤ c ∧ c < 40 * j + u + m then h.2 76 (40 * i + x + (c - (40 * j + u))) else h.2 76 c := fun c => by
            rw [cL_at]
            by_cases hc : 40 * j + u ≤ c ∧ c < 40 * j + u + m
            · rw [if_pos ⟨rfl, hc⟩, if_pos hc, cL_at, if_pos ⟨rfl, by omega, by omega⟩, H76]
              exact congrArg (h.2 76) (by omega)
            · rw [if_neg (fun q => hc q.2), if_neg hc, cL_at, if_neg (by omega), H76]
          refine ⟨r1, r2, fun b hb => ?_⟩
          rw [A, B]
          by_cases e : l = j ∧ u ≤ b ∧ b < u + m
          · obtain ⟨e3, e4⟩ := e
            subst e3
            rw [if_pos ⟨rfl, e4⟩, if_pos (by omega), s3 _ (by omega)]
            exact congrArg (h.2 76) (by omega)
          · rw [if_neg (by omega), if_neg (by omega)]
            exact r3 b hb
    · have q7 : ¬ a4 ≤ h.1 75 j - a5 := fun q => nt (d2.mp q)
      refine ⟨-12, h, h, ?_, ?_, k⟩
      · simp only [FX5_copy, i3, j3, ib, ic, jb, jc, m1, m2, hq5, hh, ht.mpr (by omega), if_true, if_false]
      · simp only [FX6_copy, i4, j4, ib, ic, jb, jc, hm, hm2, hq, q5, q2, q4, q6, q7, if_true, if_false]
  · have hq5 : ¬ h.1 (63 + 2 * i) 1 = h.1 (63 + 2 * j) 1 := by rw [s1, t1]; exact hq
    exact ⟨-13, h, h, by simp only [FX5_copy, i3, j3, ib, ic, jb, jc, m1, m2, hq5, if_true, if_false], by simp only [FX6_copy, i4, j4, ib, ic, jb, jc, hm, hm2, hq, if_true, if_false], k⟩
/-! film -/
theorem film5 {n i f N : Nat} {h : aw_H} {v : St} (w : Wks h 1 3 v) (ok : Ok v) (hi : i < 4) (hf : f ≤ 99999) (hN : N ≤ 40) (hn : 300 ≤ n) (e1 : h.1 (63 + 2 * i) 1 = 0) (e2 : h.1 (63 + 2 * i) 2 = o3 N) : ∃ H, aw_loop (BX5_film_45 n (o3 i) (o3 f) (o3 N)) n (0, h) = some (o3 N, H) ∧ Same (fun q => q = 63 + 2 * i + 1) h H ∧ ∀ b, H.2 (63 + 2 * i + 1) b = if b < N then lvV v (f + b) else h.2 (63 + 2 * i + 1) b := by
  have ic : (o3 i).toNatClampNeg = i := o3_clamp (by omega)
  have key : ∃ q, aw_loop (BX5_film_45 n (o3 i) (o3 f) (o3 N)) n (0, h) = some q ∧ (q.1 = o3 N ∧ Same (fun q => q = 63 + 2 * i + 1) h q.2 ∧ ∀ b, q.2.2 (63 + 2 * i + 1) b = if b < N then lvV v (f + b) else h.2 (63 + 2 * i + 1) b) := by
    refine lp_wp (fun u => ∃ j, j ≤ N ∧ u.1 = o3 j ∧ Same (fun q => q = 63 + 2 * i + 1) h u.2 ∧ ∀ b, u.2.2 (63 + 2 * i + 1) b = if b < j then lvV v (f + b) else h.2 (63 + 2 * i + 1) b) (fun u => 50 - u.1.toNatClampNeg) ?_ n _ ⟨0, by omega, rfl, Same.rfl, fun b => by rw [if_neg (by omega)]⟩ (by show 50 - _ < n; omega)
    rintro ⟨j', u⟩ ⟨j, hj, r1, r2, r3⟩
    replace r1 : j' = o3 j := r1
    replace r2 : Same (fun q => q = 63 + 2 * i + 1) h u := r2
    replace r3 : ∀ b, u.2 (63 + 2 * i + 1) b = if b < j then lvV v (f + b) else h.2 (63 + 2 * i + 1) b := r3
    subst r1
    by_cases e : j = N
    · refine Or.inr ⟨(o3 N, u), ?_, rfl, r2, by rw [← e]; exact r3⟩
      unfold BX5_film_45
      rw [if_pos (show o3 N ≤ o3 j by rw [e]; exact Int32.le_refl _)]
    · have wu : Wks u 1 3 v := w.fr r2 (by omega) (fun q q1 q2 => by omega)
      have u1 : u.1 (63 + 2 * i) = h.1 (63 + 2 * i) := (r2 _ (by omega)).1
      have hh : ¬ FX1_holds (63 + 2 * i) (o3 j).toInt64 1 u = 0 := by
        have hj3 : (o3 j).toInt = j := o3_toInt (by omega)
        have hq := holds_iff (h := u) (w := 63 + 2 * i) (z := N) (a := (o3 j).toInt64) (m := 1) (by rw [u1]; exact e2) hN (by rw [Int32.toInt_toInt64]; omega) (by rw [Int32.toInt_toInt64]; omega)
        rw [Int32.toInt_toInt64, hj3, show (1 : Int32).toInt = 1 from rfl] at hq
        exact fun q => (hq.mp q) (by omega)
      have jb : aw_inb (o3 j) 40 = true := (o3_inb (by omega)).mpr (by omega)
      have jc : (o3 j).toNatClampNeg = j := o3_clamp (by omega)
      have wr : FX1_write (63 + 2 * i) (o3 j) (lvV v (f + j)) u = some (aw_sL u (63 + 2 * i + 1) j (lvV v (f + j))) := by
        have e10 : ¬ u.1 (63 + 2 * i) 1 = 1 := by rw [u1, e1]; decide
        simp only [FX1_write, hh, e10, jb, jc, if_true, if_false]
      refine Or.inl ⟨(o3 (j + 1), aw_sL u (63 + 2 * i + 1) j (lvV v (f + j))), ?_, ⟨j + 1, by omega, rfl, r2.trans (Same.sL (S := fun q => q = 63 + 2 * i + 1) rfl), fun b => ?_⟩, ?_⟩
      · unfold BX5_film_45
        rw [if_neg (show ¬ o3 N ≤ o3 j by rw [o3_le (by omega) (by omega)]; omega), o3_add f j, level5 wu ok (show f + j ≤ 200000 by omega) hn]
        simp only [Option.bind_some, ic, wr]
        rw [n1, o3_add]
      · show (aw_sL u (63 + 2 * i + 1) j (lvV v (f + j))).2 (63 + 2 * i + 1) b = _
        by_cases eb : b = j
        · rw [eb, sL_eq, if_pos (by omega)]
        · rw [sL_nk eb, r3 b]
          by_cases eb2 : b < j
          · rw [if_pos eb2, if_pos (by omega)]
          · rw [if_neg eb2, if_neg (by omega)]
      · show 50 - (o3 (j + 1)).toNatClampNeg < 50 - (o3 j).toNatClampNeg
        rw [o3_clamp (by omega), o3_clamp (by omega)]; omega
  obtain ⟨q, q1, q2, q3, q4⟩ := key
  exact ⟨q.2, by rw [q1]; exact congrArg some (Prod.ext q2 rfl), q3, q4⟩
theorem film6 {n i f N : Nat} {h : aw_H} {v : St} (md : Mod h v) (ok : Ok v) (hi : i < 4) (hf : f ≤ 99999) (hN : N ≤ 40) (hn : 300 ≤ n) : ∃ H, aw_loop (BX6_film_41 n (o3 i) (o3 f) (o3 N)) n (0, h) = some (o3 N, H) ∧ Same (fun q => q = 76) h H ∧ ∀ b, H.2 76 b = if 40 * i ≤ b ∧ b < 40 * i + N then lvV v (f + (b - 40 * i)) else h.2 76 b := by
  have key : ∃ q, aw_loop (BX6_film_41 n (o3 i) (o3 f) (o3 N)) n (0, h) = some q ∧ (q.1 = o3 N ∧ Same (fun q => q = 76) h q.2 ∧ ∀ b, q.2.2 76 b = if 40 * i ≤ b ∧ b < 40 * i + N then lvV v (f + (b - 40 * i)) else h.2 76 b) := by
    refine lp_wp (fun u => ∃ j, j ≤ N ∧ u.1 = o3 j ∧ Same (fun q => q = 76) h u.2 ∧ ∀ b, u.2.2 76 b = if 40 * i ≤ b ∧ b < 40 * i + j then lvV v (f + (b - 40 * i)) else h.2 76 b) (fun u => 50 - u.1.toNatClampNeg) ?_ n _ ⟨0, by omega, rfl, Same.rfl, fun b => by rw [if_neg (by omega)]⟩ (by show 50 - _ < n; omega)
    rintro ⟨j', u⟩ ⟨j, hj, r1, r2, r3⟩
    replace r1 : j' = o3 j := r1
    replace r2 : Same (fun q => q = 76) h u := r2
    replace r3 : ∀ b, u.2 76 b = if 40 * i ≤ b ∧ b < 40 * i + j then lvV v (f + (b - 40 * i)) else h.2 76 b := r3
    subst r1
    by_cases e : j = N
    · refine Or.inr ⟨(o3 N, u), ?_, rfl, r2, by rw [← e]; exact r3⟩
      unfold BX6_film_41
      rw [if_pos (show o3 N ≤ o3 j by rw [e]; exact Int32.le_refl _)]
    · have mu : Mod u v := md.fr r2 (by omega)
      have ex : (40 : Int32) * o3 i + o3 j = o3 (40 * i + j) := by rw [n40, o3_mul, o3_add]
      refine Or.inl ⟨(o3 (j + 1), aw_sL u 76 (40 * i + j) (lvV v (f + j))), ?_, ⟨j + 1, by omega, rfl, r2.trans (Same.sL (S := fun q => q = 76) rfl), fun b => ?_⟩, ?_⟩
      · unfold BX6_film_41
        rw [if_neg (show ¬ o3 N ≤ o3 j by rw [o3_le (by omega) (by omega)]; omega), o3_add f j, sum6 mu ok (show f + j ≤ 200000 by omega) hn]
        simp only [Option.bind_some, ex]
        rw [if_pos ((o3_inb (by omega)).mpr (by omega)), o3_clamp (by omega), n1, o3_add]
      · show (aw_sL u 76 (40 * i + j) (lvV v (f + j))).2 76 b = _
        by_cases eb : b = 40 * i + j
        · rw [eb, sL_eq, if_pos (by omega), show 40 * i + j - 40 * i = j by omega]
        · rw [sL_nk eb, r3 b]
          by_cases eb2 : 40 * i ≤ b ∧ b < 40 * i + j
          · rw [if_pos eb2, if_pos (by omega)]
          · rw [if_neg eb2, if_neg (by omega)]
      · show 50 - (o3 (j + 1)).toNatClampNeg < 50 - (o3 j).toNatClampNeg
        rw [o3_clamp (by omega), o3_clamp (by omega)]; omega
  obtain ⟨q, q1, q2, q3, q4⟩ := key
  exact ⟨q.2, by rw [q1]; exact congrArg some (Prod.ext q2 rfl), q3, q4⟩
theorem c_film {n : Nat} {h : aw_H} (k : Rel h) (hn : 300 ≤ n) (a1 a2 a3 : Int32) : Sim (FX5_film n a1 a2 a3 h) (FX6_film n a1 a2 a3) := by
  obtain ⟨v, ok, w, md⟩ := k.1
  rcases sheet_g a1 with ⟨f1, f2⟩ | ⟨i, i1, i2, i3, i4⟩
  · exact ⟨-2, h, h, by simp only [FX5_film, f1, if_true], by simp only [FX6_film, f2, if_true], k⟩
  rcases tick_g a2 with ⟨f1, f2⟩ | ⟨f, t1, t2, t3, t4⟩
  · exact ⟨-2, h, h, by simp only [FX5_film, i3, f1, if_true, if_false], by simp only [FX6_film, i4, f2, if_true, if_false], k⟩
  rcases rng a3 0 40 0 40 0 40 rfl rfl rfl rfl (by omega) (by omega) with ⟨f1, f2, -⟩ | ⟨N, c1, -, c3, c4, c5⟩
  · exact ⟨-2, h, h, by simp only [FX5_film, i3, t3, f1, if_true, if_false], by simp only [FX6_film, i4, t4, f2, if_true, if_false], k⟩
  subst i1 t1 c1
  have ib : aw_inb (o3 i) 4 = true := (o3_inb (by omega)).mpr i2
  have ic : (o3 i).toNatClampNeg = i := o3_clamp (by omega)
  obtain ⟨H, b1, b2, b3, b4, b5⟩ := begin5 (n := n) (i := i) (so := 0) (sz := o3 N) (h := h) hn
  have wH : Wks H 1 3 v := w.fr b2 (by omega) (fun q q1 q2 => by omega)
  obtain ⟨H5, d1, d2, d3⟩ := film5 (n := n) (f := f) wH ok i2 t2 c3 hn b3 b4
  have sm5 : Same (fun q => q = 63 + 2 * i ∨ q = 63 + 2 * i + 1) h H5 := b2.trans (d2.mono (fun q hq => Or.inr hq))
  obtain ⟨H2, c1, c2, e3, e4⟩ := zero6 (n := n) (h := aw_sI (aw_sI H5 74 i 0) 75 i (o3 N)) i2 hn
  have m2 : Mod H2 v := ((((md.fr sm5 (by omega)).fr (Same.sI (S := fun q => q = 74) rfl) (by omega)).fr (Same.sI (S := fun q => q = 75) rfl) (by omega))).fr c2 (by omega)
  obtain ⟨H6, g1, g2, g3⟩ := film6 (n := n) (f := f) m2 ok i2 t2 c3 hn
  have sz6 : FX6_sheet n (o3 i) 0 (o3 N) H5 = some (1, H2) := by
    rw [sheet_eq6 i2 i4 (by decide) (fun _ => ⟨by rw [n40, o3_le (by omega) (by omega)]; exact c3, by rw [n0, o3_le (by omega) (by omega)]; omega⟩), if_neg (by decide)]
    exact c1
  have e74 : ∀ j, H6.1 74 j = if j = i then 0 else h.1 74 j := fun j => by
    rw [(g2 74 (by omega)).1, (c2 74 (by omega)).1, sI_ne (by omega)]
    by_cases e : j = i
    · rw [if_pos e, e, sI_eq]
    · rw [if_neg e, sI_nk e, (sm5 74 (by omega)).1]
  have e75 : ∀ j, H6.1 75 j = if j = i then o3 N else h.1 75 j := fun j => by
    rw [(g2 75 (by omega)).1, (c2 75 (by omega)).1]
    by_cases e : j = i
    · rw [if_pos e, e, sI_eq]
    · rw [if_neg e, sI_nk e, sI_ne (by omega), (sm5 75 (by omega)).1]
  have r63 : ∀ q, 63 ≤ q → q < 71 → H6.1 q = H5.1 q ∧ H6.2 q = H5.2 q := fun q q1 q2 => by
    rw [(g2 q (by omega)).1, (g2 q (by omega)).2, (c2 q (by omega)).1, (c2 q (by omega)).2, sI_ne (by omega), sI_ne (by omega)]
    exact ⟨rfl, rfl⟩
  refine ⟨o3 N, H5, H6, ?_, ?_, k.sheets (((((sm5.mono (fun q hq => ?_)).trans (Same.sI (show ShS 74 by unfold ShS; omega))).trans (Same.sI (show ShS 75 by unfold ShS; omega))).trans (c2.mono (fun q hq => ?_))).trans (g2.mono (fun q hq => ?_))) (fun j hj => ?_)⟩
  · simp only [FX5_film, i3, t3, c4, ib, ic, b1, Option.bind_some, if_true, if_false]
    exact d1
  · simp only [FX6_film, i4, t4, c5, sz6, Option.bind_some, if_false]
    exact g1
  · unfold ShS; omega
  · unfold ShS; omega
  · unfold ShS; omega
  · rw [(r63 (63 + 2 * j) (by omega) (by omega)).1, (r63 (63 + 2 * j + 1) (by omega) (by omega)).2, e74, e75]
    by_cases e : j = i
    · subst e
      rw [if_pos rfl, if_pos rfl, (d2 (63 + 2 * j) (by omega)).1]
      refine ⟨⟨b3, Or.inr (Or.inl rfl)⟩, ⟨N, c3, b4, rfl⟩, fun m hm => ?_⟩
      rw [d3, g3]
      by_cases em : m < N
      · rw [if_pos em, if_pos (by omega), show 40 * j + m - 40 * j = m by omega]
      · rw [if_neg em, if_neg (by omega), b5 m hm, e3 m hm]
    · rw [if_neg e, if_neg e, (sm5 (63 + 2 * j) (by omega)).1, (sm5 (63 + 2 * j + 1) (by omega)).2]
      obtain ⟨k1, k2, k3⟩ := k.2.2.1 j hj
      refine ⟨k1, k2, fun m hm => ?_⟩
      rw [g3, if_neg (by omega), e4 _ (by omega)]
      show _ = H5.2 76 (40 * j + m)
      rw [(sm5 76 (by omega)).2]
      exact k3 m hm

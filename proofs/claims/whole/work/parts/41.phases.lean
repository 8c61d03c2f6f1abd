/-! refound's loops over all phases -/
def phV (k : Nat) : Int32 := if k = 0 then -1 else o3 (k - 1)
theorem phV_succ (k : Nat) : phV (k + 1) = o3 k := by
  unfold phV
  rw [if_neg (by omega), Nat.add_sub_cancel]
theorem phV_dec (k : Nat) (hk : k < 2147483648) : o3 k + -1 = phV k := by
  unfold phV
  by_cases e : k = 0
  · rw [if_pos e, e]; decide
  · rw [if_neg e, ← Int32.sub_eq_add_neg, n1, o3_sub (by omega) (by omega)]
def rfV (g : Nat → Bool) : Nat → Int32 × Int32
  | 0 => (0, -1)
  | d + 1 => bif g (1023 - d) then ((rfV g d).1 + 1, o3 (1023 - d)) else rfV g d
theorem refound5 {n : Nat} {h h0 : aw_H} {v : St} {i z f N p : Nat} {a5 : Int32} {row : Nat → Int64} (ok : Ok v) (hp : p < v 66) (r : Rw h i z row) (th : Thk h0 v p f (N + 1)) (wh : Whl h0 57 v p) (s0 : Same ThS h h0) (hi : i < 4) (hz : z ≤ 8) (hf : f ≤ 99999) (hN : N ≤ 200) (hn : 3000 ≤ n) : ∃ q, aw_loop (BX5_refound_110 n (o3 i) (o3 f) (o3 N) a5) n (0, -1, aw_ro 0 3, h0) = some q ∧ q.1 = (if a5 = 0 then (rfV (hitV v row p f z N) 1024).1 else (rfV (hitV v row p f z N) 1024).2) ∧ Same (fun q => ThS q ∨ q = 62) h q.2 := by
  have ic : (o3 i).toNatClampNeg = i := o3_clamp (by omega)
  refine lp_wp (fun u => ∃ d, d ≤ 1024 ∧ u.1 = (rfV (hitV v row p f z N) d).1 ∧ u.2.1 = (rfV (hitV v row p f z N) d).2 ∧ u.2.2.1 = phV (1024 - d) ∧ Same (fun q => ThS q ∨ q = 62) h u.2.2.2 ∧ (∃ y, Whl u.2.2.2 57 (upv v (11 * p + 3) y) p) ∧ Thk u.2.2.2 v p f (N + 1)) (fun u => 1100 - (1024 - (u.2.2.1 + 1).toNatClampNeg)) ?_ n _ ⟨0, by omega, rfl, rfl, rfl, s0.mono (fun q hq => Or.inl hq), ⟨v (11 * p + 3), by rw [upv_self]; exact wh⟩, th⟩ (by show 1100 - _ < n; omega)
  rintro ⟨c, l, ph, u⟩ ⟨d, hd, r1, r2, r3, r4, ⟨y, r5⟩, r6⟩
  replace r1 : c = (rfV (hitV v row p f z N) d).1 := r1
  replace r2 : l = (rfV (hitV v row p f z N) d).2 := r2
  replace r3 : ph = phV (1024 - d) := r3
  replace r4 : Same (fun q => ThS q ∨ q = 62) h u := r4
  replace r5 : Whl u 57 (upv v (11 * p + 3) y) p := r5
  replace r6 : Thk u v p f (N + 1) := r6
  by_cases e : d = 1024
  · refine Or.inr ⟨(if a5 = 0 then c else l, u), ?_, ?_, r4⟩
    · unfold BX5_refound_110
      rw [if_pos (show ph < 0 by rw [r3, e]; decide)]
      split <;> rfl
    · show (if a5 = 0 then c else l) = _
      rw [r1, r2, e]
  · obtain ⟨x, hx⟩ : ∃ x, x = 1023 - d := ⟨_, rfl⟩
    have r3 : ph = o3 x := by rw [r3, show 1024 - d = x + 1 by omega, phV_succ]
    subst r3
    have wu := think_set (x := x) (by omega) r5
    have su : Same (fun q => ThS q ∨ q = 62) u (aw_sI u 58 3 (o3 x)) := Same.sI (show ThS 58 ∨ 58 = 62 by unfold ThS; omega)
    have s2 := r4.trans su
    have ru : Rw (aw_sI u 58 3 (o3 x)) i z row := by
      refine ⟨?_, fun k hk => ?_⟩
      · rw [(s2 _ (by unfold ThS; omega)).1]; exact r.1
      · rw [(s2 _ (by unfold ThS; omega)).2]; exact r.2 k hk
    have tu : Thk (aw_sI u 58 3 (o3 x)) v p f (N + 1) := ⟨r6.1.fr (Same.sI (S := fun q => q = 58) rfl) (by omega), r6.2⟩
    obtain ⟨H, y1, y2⟩ := highs5 (n := n) ok hp (show x ≤ 1023 by omega) ru tu wu hi hz hf hN hn
    have dec : 1100 - (1024 - (o3 x + -1 + 1).toNatClampNeg) < 1100 - (1024 - (o3 x + 1).toNatClampNeg) := by
      rw [show o3 x + -1 + 1 = o3 x by rw [Int32.add_assoc, show (-1 : Int32) + 1 = 0 by decide, Int32.add_zero], n1, o3_add, o3_clamp (by omega), o3_clamp (by omega)]; omega
    have ev : BX5_refound_110 n (o3 i) (o3 f) (o3 N) a5 (c, l, o3 x, u) = some (Sum.inl ((rfV (hitV v row p f z N) (d + 1)).1, (rfV (hitV v row p f z N) (d + 1)).2, o3 x + -1, H)) := by
      unfold BX5_refound_110
      rw [if_neg (show ¬ o3 x < 0 by rw [n0, o3_lt (by omega) (by omega)]; omega), ic]
      show (Option.bind (FX5_hasHighs n (63 + 2 * i) (o3 f) (o3 N) (aw_sI u 58 3 (o3 x))) _) = _
      rw [y1]
      simp only [Option.bind_some]
      rw [rfV, ← hx, r1, r2]
      cases hitV v row p f z N x with
      | true => rw [if_neg (show ¬ (bif true then (1 : Int32) else 0) = 0 by decide)]; rfl
      | false => rw [if_pos (show (bif false then (1 : Int32) else 0) = 0 from rfl)]; rfl
    have s3 : Same (fun q => ThS q ∨ q = 62) (aw_sI u 58 3 (o3 x)) H := y2.mono (fun q hq => Or.inr hq)
    refine Or.inl ⟨_, ev, ⟨d + 1, by omega, rfl, rfl, ?_, s2.trans s3, ⟨x, wu.fr y2 (fun i hi => by omega)⟩, ?_⟩, dec⟩
    · show o3 x + -1 = phV (1024 - (d + 1))
      rw [phV_dec x (by omega), show 1024 - (d + 1) = x by omega]
    · exact ⟨tu.1.fr y2 (by omega), fun k hk => by rw [(y2 61 (by omega)).2]; exact tu.2 k hk⟩
theorem refound6 {n : Nat} {h h0 : aw_H} {v : St} {i z f N p : Nat} {a5 : Int32} {row : Nat → Int64} (md : Mod h0 v) (ok : Ok v) (hp : p < v 66) (r : Rm h i z row) (rs : ∀ k, k ≤ N → h0.2 77 k = rsV v p f k) (s0 : Same (fun q => q = 77) h h0) (hi : i < 4) (hz : z ≤ 8) (hf : f ≤ 99999) (hN : N ≤ 200) (hn : 3000 ≤ n) : ∃ H, aw_loop (BX6_refound_125 n (o3 i) (o3 p) (o3 f) (o3 N) a5 (o3 (v (11 * p + 3)))) n (0, -1, 1023, h0) = some (Sum.inr ((if a5 = 0 then (rfV (hitV v row p f z N) 1024).1 else (rfV (hitV v row p f z N) 1024).2), H)) ∧ Same (fun q => q = 77 ∨ q = 72) h H ∧ Mod H v := by
  have h66 := ok.1
  have key : ∃ q, aw_loop (BX6_refound_125 n (o3 i) (o3 p) (o3 f) (o3 N) a5 (o3 (v (11 * p + 3)))) n (0, -1, 1023, h0) = some q ∧ ∃ H, q = Sum.inr ((if a5 = 0 then (rfV (hitV v row p f z N) 1024).1 else (rfV (hitV v row p f z N) 1024).2), H) ∧ Same (fun q => q = 77 ∨ q = 72) h H ∧ Mod H v := by
    refine lp_wp (fun u => ∃ d, d ≤ 1024 ∧ u.1 = (rfV (hitV v row p f z N) d).1 ∧ u.2.1 = (rfV (hitV v row p f z N) d).2 ∧ u.2.2.1 = phV (1024 - d) ∧ Same (fun q => q = 77 ∨ q = 72) h u.2.2.2 ∧ (∃ y, Mod u.2.2.2 (upv v (11 * p + 3) y)) ∧ ∀ k, k ≤ N → u.2.2.2.2 77 k = rsV v p f k) (fun u => 1100 - (1024 - (u.2.2.1 + 1).toNatClampNeg)) ?_ n _ ⟨0, by omega, rfl, rfl, rfl, s0.mono (fun q hq => Or.inl hq), ⟨v (11 * p + 3), by rw [upv_self]; exact md⟩, rs⟩ (by show 1100 - _ < n; omega)
    rintro ⟨c, l, ph, u⟩ ⟨d, hd, r1, r2, r3, r4, ⟨y, r5⟩, r6⟩
    replace r1 : c = (rfV (hitV v row p f z N) d).1 := r1
    replace r2 : l = (rfV (hitV v row p f z N) d).2 := r2
    replace r3 : ph = phV (1024 - d) := r3
    replace r4 : Same (fun q => q = 77 ∨ q = 72) h u := r4
    replace r5 : Mod u (upv v (11 * p + 3) y) := r5
    replace r6 : ∀ k, k ≤ N → u.2 77 k = rsV v p f k := r6
    by_cases e : d = 1024
    · have back : Mod (aw_sI u 72 (11 * p + 3) (o3 (v (11 * p + 3)))) v := by
        have := r5.upv (11 * p + 3) (v (11 * p + 3))
        rw [upv_upv, upv_self] at this
        exact this
      refine Or.inr ⟨Sum.inr ((if a5 = 0 then c else l), aw_sI u 72 (11 * p + 3) (o3 (v (11 * p + 3)))), ?_, _, by rw [r1, r2, e], r4.trans (Same.sI (Or.inr rfl)), back⟩
      unfold BX6_refound_125
      rw [if_pos (show ph < 0 by rw [r3, e]; decide), lays63 (by omega)]
      simp only [Option.bind_some]
      split <;> rfl
    · obtain ⟨x, hx⟩ : ∃ x, x = 1023 - d := ⟨_, rfl⟩
      have r3 : ph = o3 x := by rw [r3, show 1024 - d = x + 1 by omega, phV_succ]
      subst r3
      have m' : Mod (aw_sI u 72 (11 * p + 3) (o3 x)) (upv v (11 * p + 3) x) := by
        have := r5.upv (11 * p + 3) x
        rw [upv_upv] at this
        exact this
      have su : Same (fun q => q = 77 ∨ q = 72) u (aw_sI u 72 (11 * p + 3) (o3 x)) := Same.sI (Or.inr rfl)
      have s2 := r4.trans su
      have rm : Rm (aw_sI u 72 (11 * p + 3) (o3 x)) i z row := by
        refine ⟨?_, fun k hk => ?_⟩
        · rw [(s2 75 (by omega)).1]; exact r.1
        · rw [(s2 76 (by omega)).2]; exact r.2 k hk
      have y1 := highs6 (n := n) (f := f) (N := N) m' ok hp (show x ≤ 1023 by omega) rm r6 hi hz hf hN hn
      have dec : 1100 - (1024 - (o3 x + -1 + 1).toNatClampNeg) < 1100 - (1024 - (o3 x + 1).toNatClampNeg) := by
        rw [show o3 x + -1 + 1 = o3 x by rw [Int32.add_assoc, show (-1 : Int32) + 1 = 0 by decide, Int32.add_zero], n1, o3_add, o3_clamp (by omega), o3_clamp (by omega)]; omega
      have ev : BX6_refound_125 n (o3 i) (o3 p) (o3 f) (o3 N) a5 (o3 (v (11 * p + 3))) (c, l, o3 x, u) = some (Sum.inl ((rfV (hitV v row p f z N) (d + 1)).1, (rfV (hitV v row p f z N) (d + 1)).2, o3 x + -1, aw_sI u 72 (11 * p + 3) (o3 x))) := by
        unfold BX6_refound_125
        rw [if_neg (show ¬ o3 x < 0 by rw [n0, o3_lt (by omega) (by omega)]; omega), lays63 (by omega)]
        simp only [Option.bind_some, y1]
        rw [rfV, ← hx, r1, r2]
        cases hitV v row p f z N x with
        | true => rw [if_neg (show ¬ (bif true then (1 : Int32) else 0) = 0 by decide)]; rfl
        | false => rw [if_pos (show (bif false then (1 : Int32) else 0) = 0 from rfl)]; rfl
      refine Or.inl ⟨_, ev, ⟨d + 1, by omega, rfl, rfl, ?_, s2, ⟨x, m'⟩, r6⟩, dec⟩
      show o3 x + -1 = phV (1024 - (d + 1))
      rw [phV_dec x (by omega), show 1024 - (d + 1) = x by omega]
  obtain ⟨q, q1, H, q2, q3, q4⟩ := key
  exact ⟨H, by rw [q1, q2], q3, q4⟩
theorem others6 {n : Nat} {h : aw_H} {v : St} {i z f N p : Nat} {a5 : Int32} {row : Nat → Int64} (md : Mod h v) (ok : Ok v) (hp : p < v 66) (r : Rm h i z row) (hi : i < 4) (hz : z ≤ 8) (hf : f ≤ 99999) (hN : N ≤ 200) (hn : 3000 ≤ n) : ∃ H, aw_loop (BX6_refound_68 n (o3 i) (o3 p) (o3 f) (o3 N) a5) n (o3 f, h) = some ((if a5 = 0 then (rfV (hitV v row p f z N) 1024).1 else (rfV (hitV v row p f z N) 1024).2), H) ∧ Same (fun q => q = 77 ∨ q = 72) h H ∧ Mod H v := by
  have h66 := ok.1
  have key : ∃ q, aw_loop (BX6_refound_68 n (o3 i) (o3 p) (o3 f) (o3 N) a5) n (o3 f, h) = some q ∧ ∃ H, q = ((if a5 = 0 then (rfV (hitV v row p f z N) 1024).1 else (rfV (hitV v row p f z N) 1024).2), H) ∧ Same (fun q => q = 77 ∨ q = 72) h H ∧ Mod H v := by
    refine lp_wp (fun u => ∃ j, j ≤ N + 1 ∧ u.1 = o3 (f + j) ∧ Same (fun q => q = 77) h u.2 ∧ ∀ k, k < j → u.2.2 77 k = rsV v p f k) (fun u => f + N + 1 - u.1.toNatClampNeg) ?_ n _ ⟨0, by omega, rfl, Same.rfl, fun k hk => absurd hk (by omega)⟩ (by show f + N + 1 - (o3 f).toNatClampNeg < n; rw [o3_clamp (by omega)]; omega)
    rintro ⟨t', u⟩ ⟨j, hj, r1, r2, r3⟩
    replace r1 : t' = o3 (f + j) := r1
    replace r2 : Same (fun q => q = 77) h u := r2
    replace r3 : ∀ k, k < j → u.2 77 k = rsV v p f k := r3
    subst r1
    have mu := md.fr r2 (by omega)
    by_cases e : j = N + 1
    · obtain ⟨H, y1, y2, y3⟩ := refound6 (n := n) (a5 := a5) mu ok hp r (fun k hk => r3 k (by omega)) r2 hi hz hf hN hn
      refine Or.inr ⟨_, ?_, H, rfl, y2, y3⟩
      have a3 : FX6_at (o3 p) 3 u = some (o3 (v (11 * p + 3))) := at6 (k := 3) mu (by omega) (by omega)
      unfold BX6_refound_68
      rw [if_pos (show o3 f + o3 N < o3 (f + j) by rw [o3_add, o3_lt (by omega) (by omega)]; omega), a3]
      simp only [Option.bind_some]
      rw [y1]
    · have e1 : o3 (f + j) + 1 = o3 (f + (j + 1)) := by rw [n1, o3_add, Nat.add_assoc]
      have e3 : o3 (f + j) - o3 f = o3 j := by rw [o3_sub (by omega) (by omega), show f + j - f = j by omega]
      refine Or.inl ⟨(o3 (f + (j + 1)), aw_sL u 77 j (rsV v p f j)), ?_, ⟨j + 1, by omega, rfl, r2.trans (Same.sL (S := fun q => q = 77) rfl), fun k hk => ?_⟩, ?_⟩
      · unfold BX6_refound_68
        rw [if_neg (show ¬ o3 f + o3 N < o3 (f + j) by rw [o3_add, o3_lt (by omega) (by omega)]; omega), sum6 mu ok (show f + j ≤ 200000 by omega) (by omega), height6 mu (by omega) (ok.2.2.2 p (by omega)) ok.2.1.2 (show f + j ≤ 200000 by omega) (by omega)]
        simp only [Option.bind_some, e1, e3]
        rw [if_pos ((o3_inb (by omega)).mpr (by omega)), o3_clamp (show j < 2147483648 by omega)]
        rfl
      · show (aw_sL u 77 j _).2 77 k = _
        by_cases ek : k = j
        · rw [ek, sL_eq]
        · rw [sL_nk ek]; exact r3 k (by omega)
      · show f + N + 1 - (o3 (f + (j + 1))).toNatClampNeg < f + N + 1 - (o3 (f + j)).toNatClampNeg
        rw [o3_clamp (by omega), o3_clamp (by omega)]; omega
  obtain ⟨q, q1, H, q2, q3, q4⟩ := key
  exact ⟨H, by rw [q1, q2], q3, q4⟩
theorem c_refound {n : Nat} {h : aw_H} (k : Rel h) (hn : 3000 ≤ n) (a1 a2 a3 a4 a5 : Int32) : Sim (FX5_refound n a1 a2 a3 a4 a5 h) (FX6_refound n a1 a2 a3 a4 a5) := by
  obtain ⟨v, ok, w, md⟩ := k.1
  have h66 := ok.1
  rcases sheet_g a1 with ⟨f1, f2⟩ | ⟨i, i1, i2, i3, i4⟩
  · rcases part_g (h := h) (h' := h) a2 w.1 (md 66 (by omega)) ok.1 with ⟨g1, -⟩ | ⟨p, b1, b2, b3, -⟩
    · exact ⟨-2, h, h, by simp only [FX5_refound, g1, Option.bind_some, aw_on_none, f1, if_true], by simp only [FX6_refound, f2, if_true], k⟩
    · have hp : p < 6 := by omega
      exact ⟨-2, h, h, by simp only [FX5_refound, b3, Option.bind_some, aw_on_some, isW_of hp, f1, if_true], by simp only [FX6_refound, f2, if_true], k⟩
  rcases part_g (h := h) (h' := h) a2 w.1 (md 66 (by omega)) ok.1 with ⟨g1, g2⟩ | ⟨p, b1, b2, b3, b4⟩
  · exact ⟨-2, h, h, by simp only [FX5_refound, g1, Option.bind_some, aw_on_none, i3, if_false], by simp only [FX6_refound, i4, g2, if_true, if_false], k⟩
  have hp : p < 6 := by omega
  obtain ⟨q1, q2, q3⟩ := aw_g a4 200 200 200 rfl rfl (by omega) a3
  by_cases t0 : FX5_isTick a3 = 0
  · exact ⟨-2, h, h, by simp only [FX5_refound, b3, Option.bind_some, aw_on_some, isW_of hp, i3, t0, if_true, if_false], by simp only [FX6_refound, i4, b4, q2 t0, if_true, if_false], k⟩
  by_cases t1 : FX5_within a4 1 200 = 0
  · exact ⟨-2, h, h, by simp only [FX5_refound, b3, Option.bind_some, aw_on_some, isW_of hp, i3, t0, t1, if_true, if_false], by simp only [FX6_refound, i4, b4, q1 t0 t1, if_true, if_false], k⟩
  obtain ⟨q4, f, N, e1, e2, e3, e4, e5⟩ := q3 t0 t1
  rcases line_g a5 with ⟨f1, f2⟩ | ⟨x, c1, c2, c3, c4⟩
  · exact ⟨-2, h, h, by simp only [FX5_refound, b3, Option.bind_some, aw_on_some, isW_of hp, i3, t0, t1, f1, if_true, if_false], by simp only [FX6_refound, i4, b4, q4, f2, if_true, if_false], k⟩
  subst i1 b1 e1 e3
  have ib : aw_inb (o3 i) 4 = true := (o3_inb (by omega)).mpr i2
  have ic : (o3 i).toNatClampNeg = i := o3_clamp (by omega)
  obtain ⟨⟨s1, s2⟩, ⟨z, z1, z2, z3⟩, s3⟩ := k.2.2.1 i i2
  by_cases hm : h.1 74 i = -1
  · have m1 : FX1_isMissing (63 + 2 * i) h = 1 := by unfold FX1_isMissing; rw [s1, if_pos hm]
    have m2 : FX1_canTell (63 + 2 * i) h = 0 := by unfold FX1_canTell; rw [m1, if_neg one_ne]
    exact ⟨-11, h, h, by simp only [FX5_refound, b3, Option.bind_some, aw_on_some, isW_of hp, i3, t0, t1, c3, ib, ic, m1, m2, if_true, if_false, one_ne], by simp only [FX6_refound, i4, b4, q4, c4, ib, ic, hm, if_true, if_false], k⟩
  have m1 : FX1_isMissing (63 + 2 * i) h = 0 := by unfold FX1_isMissing; rw [s1, if_neg hm]
  by_cases hz : z ≤ 8
  · have m2 : FX1_canTell (63 + 2 * i) h = 1 := by
      unfold FX1_canTell
      rw [m1, if_pos rfl, z2, if_neg (show ¬ (8 : Int32) < o3 z by rw [n8, o3_lt (by omega) (by omega)]; omega)]
    have m3 : h.1 75 i ≤ 8 := by rw [z3, n8, o3_le (by omega) (by omega)]; exact hz
    obtain ⟨row, hrow⟩ : ∃ row, row = fun k => h.2 (63 + 2 * i + 1) k := ⟨_, rfl⟩
    have rw5 : Rw h i z row := ⟨z2, fun k hk => by rw [hrow]⟩
    have rm6 : Rm h i z row := ⟨z3, fun k hk => by rw [hrow]; exact (s3 k hk).symm⟩
    obtain ⟨H0, y1, y2, y3, y4⟩ := think5 (n := n) (m := N + 1) w ok b2 e2 (by omega) hn
    obtain ⟨q, u1, u2, u3⟩ := refound5 (n := n) (a5 := a5) ok b2 rw5 y4 y3 y2 i2 hz e2 e5 hn
    have rm1 : Rm q.2 i z row := by
      refine ⟨?_, fun k hk => ?_⟩
      · rw [(u3 75 (by unfold ThS; omega)).1]; exact rm6.1
      · rw [(u3 76 (by unfold ThS; omega)).2]; exact rm6.2 k hk
    obtain ⟨H, w1, w2, w3⟩ := others6 (n := n) (a5 := a5) (md.fr u3 (by unfold ThS; omega)) ok b2 rm1 i2 hz e2 e5 hn
    refine ⟨q.1, q.2, H, ?_, ?_, ?_⟩
    · simp only [FX5_refound, b3, Option.bind_some, aw_on_some, isW_of hp, i3, t0, t1, c3, ib, ic, m2, if_true, if_false, one_ne]
      rw [n1, o3_add, y1]
      exact u1
    · have g74 : q.2.1 74 i = h.1 74 i := by rw [(u3 74 (by unfold ThS; omega)).1]
      have g75 : q.2.1 75 i = h.1 75 i := by rw [(u3 75 (by unfold ThS; omega)).1]
      have b4' := isPart6 ((md.fr u3 (by unfold ThS; omega)) 66 (by omega)) ok.1 b2
      rw [← g74] at hm
      rw [← g75] at m3
      simp only [FX6_refound, i4, b4', q4, c4, ib, ic, hm, m3, if_true, if_false]
      rw [w1, u2]
    · refine k.fin ok w ((u3.mono (fun q hq => ?_)).trans (w2.mono (fun q hq => ?_))) ?_ ?_ ?_ w3
      · unfold ThS at hq; unfold Scr; omega
      · unfold Scr; omega
      · rw [(w2 71 (by omega)).1, (u3 71 (by unfold ThS; omega)).1]
      · rw [(w2 54 (by omega)).1, (u3 54 (by unfold ThS; omega)).1]
      · rw [(w2 71 (by omega)).1, (u3 71 (by unfold ThS; omega)).1]
  · have m2 : FX1_canTell (63 + 2 * i) h = 0 := by
      unfold FX1_canTell
      rw [m1, if_pos rfl, z2, if_pos (show (8 : Int32) < o3 z by rw [n8, o3_lt (by omega) (by omega)]; omega)]
    have m3 : ¬ h.1 75 i ≤ 8 := by rw [z3, n8, o3_le (by omega) (by omega)]; exact hz
    exact ⟨-2, h, h, by simp only [FX5_refound, b3, Option.bind_some, aw_on_some, isW_of hp, i3, t0, t1, c3, ib, ic, m1, m2, if_true, if_false], by simp only [FX6_refound, i4, b4, q4, c4, ib, ic, hm, m3, if_true, if_false], k⟩

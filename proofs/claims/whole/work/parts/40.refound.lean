/-! refound -/
theorem Rel.fin {h h2 : aw_H} {v : St} (k : Rel h) (ok : Ok v) (w : Wks h 1 3 v) (s : Same (fun q => Scr q ∨ q = 72) h h2) (a1 : h2.1 71 2 = h.1 71 2) (a2 : h2.1 54 1 = h.1 54 1) (a3 : h2.1 71 12 = h.1 71 12) (m : Mod h2 v) : Rel h2 := by
  obtain ⟨-, k4, k5, k6⟩ := k
  refine ⟨⟨v, ok, w.fr s ?_ ?_, m⟩, k4.fr s ?_ ?_ ?_ a1, k5.fr s ?_ ?_ ?_ ?_, k6.fr s ?_ ?_ a2 a3⟩
  all_goals (try intro q q1 q2); unfold Scr; omega
def hvV (L : Nat → Int64) (row : Nat → Int64) (f z N : Nat) : Nat → Nat → Bool
  | 0, c => decide (c = z)
  | d + 1, c => if z ≤ c then decide (c = z) else bif evS L 1 (N - (d + 1)) then (if row c = o6 (f + (N - (d + 1))) then hvV L row f z N d (c + 1) else false) else hvV L row f z N d c
theorem hv_full {L row : Nat → Int64} {f z N c : Nat} (hc : z ≤ c) : ∀ d : Nat, hvV L row f z N d c = decide (c = z)
  | 0 => rfl
  | d + 1 => by rw [hvV, if_pos hc]
theorem hv_stuck {L row : Nat → Int64} {f z N c j : Nat} (hN : f + N < 9223372036854775808) (hc : c < z) (hr : row c = o6 (f + j)) : ∀ d : Nat, d ≤ N → j < N - d → hvV L row f z N d c = false
  | 0, _, _ => decide_eq_false (by omega)
  | d + 1, hd, hj => by
    rw [hvV, if_neg (by omega), hv_stuck hN hc hr d (by omega) (by omega)]
    cases evS L 1 (N - (d + 1)) with
    | true =>
      rw [hr, Bool.cond_true, if_neg (by rw [o6_eq (by omega) (by omega)]; omega)]
    | false => rfl
def rsV (v : St) (p f j : Nat) : Int64 := lvV v (f + j) - hbV v p (f + j)
def lxV (v : St) (p f x j : Nat) : Int64 := rsV v p f j + hbV (upv v (11 * p + 3) x) p (f + j)
def hitV (v : St) (row : Nat → Int64) (p f z N x : Nat) : Bool := hvV (lxV v p f x) row f z N N 0
theorem highs5 {n : Nat} {h : aw_H} {v : St} {i z f N p x : Nat} {row : Nat → Int64} (ok : Ok v) (hp : p < v 66) (hx : x ≤ 1023) (r : Rw h i z row) (th : Thk h v p f (N + 1)) (wh : Whl h 57 (upv v (11 * p + 3) x) p) (hi : i < 4) (hz : z ≤ 8) (hf : f ≤ 99999) (hN : N ≤ 200) (hn : 3000 ≤ n) : ∃ H, FX5_hasHighs n (63 + 2 * i) (o3 f) (o3 N) h = some (bif hitV v row p f z N x then 1 else 0, H) ∧ Same (fun q => q = 62) h H := by
  have h66 := ok.1
  have ok' := ok_change (t := 3) ok (show p < 6 by omega) (by omega) (show x ≤ mostN 3 from hx)
  have okp' := ok'.2.2.2 p (by omega)
  have sp : Spd h 57 (upv v (11 * p + 3) x) p := th.1.congr (ok.2.2.2 p (by omega)).2.2.2.2.1 (upv_ne (by omega)) (fun i h1 h2 => upv_ne (by omega))
  have sw := fun t (ht : t ≤ 200000) => swing5 (t := t) wh sp okp' ok'.2.1.2 ht
  obtain ⟨h0, g1, g2, g3, g4⟩ := start5 (h := h) (a := lxV v p f x 0)
  unfold FX5_hasHighs
  rw [sw f (by omega)]
  simp only [Option.bind_some]
  rw [th.2 0 (by omega), show lvV v (f + 0) - hbV v p (f + 0) + hbV (upv v (11 * p + 3) x) p f = lxV v p f x 0 from rfl, g1]
  simp only [Option.bind_some]
  have key : ∃ q, aw_loop (BX5_hasHighs_28 (63 + 2 * i) (o3 f) (o3 N)) n (0, 1, h0) = some q ∧ (q.1 = (bif hitV v row p f z N x then 1 else 0) ∧ Same (fun q => q = 62) h q.2) := by
    refine lp_wp (fun u => ∃ j c, j ≤ N ∧ c ≤ z ∧ u.1 = o3 c ∧ u.2.1 = o3 (j + 1) ∧ Same (fun q => q = 62) h u.2.2 ∧ u.2.2.2 62 0 = lxV v p f x j ∧ u.2.2.1 62 1 = wyS (lxV v p f x) j ∧ hvV (lxV v p f x) row f z N (N - j) c = hitV v row p f z N x) (fun u => 300 - u.2.1.toNatClampNeg) ?_ n _ ⟨0, 0, by omega, by omega, rfl, rfl, g4, g2, g3, rfl⟩ (by show 300 - _ < n; omega)
    rintro ⟨c', j', u⟩ ⟨j, c, hj, hc, r1, r2, r3, r4, r5, r6⟩
    replace r1 : c' = o3 c := r1
    replace r2 : j' = o3 (j + 1) := r2
    replace r3 : Same (fun q => q = 62) h u := r3
    replace r4 : u.2 62 0 = lxV v p f x j := r4
    replace r5 : u.1 62 1 = wyS (lxV v p f x) j := r5
    subst r1 r2
    have ez : u.1 (63 + 2 * i) 2 = o3 z := by rw [(r3 _ (by omega)).1]; exact r.1
    have efin : ∀ {α : Type} {a b : α}, (if o3 c = u.1 (63 + 2 * i) 2 then a else b) = bif decide (c = z) then a else b := by
      intro α a b
      rw [ez]
      by_cases e : c = z
      · rw [if_pos (by rw [e]), decide_eq_true e]; rfl
      · rw [if_neg (by rw [o3_eq (by omega) (by omega)]; exact e), decide_eq_false e]; rfl
    by_cases e : j = N
    · have hh : hitV v row p f z N x = decide (c = z) := by
        rw [← r6, e, Nat.sub_self]; rfl
      refine Or.inr ⟨(bif hitV v row p f z N x then 1 else 0, u), ?_, rfl, r3⟩
      unfold BX5_hasHighs_28
      rw [if_pos (show o3 N < o3 (j + 1) by rw [o3_lt (by omega) (by omega)]; omega), efin, hh]
      cases decide (c = z) <;> rfl
    · have hd : N - j = N - (j + 1) + 1 := by omega
      have hd2 : N - (N - (j + 1) + 1) = j := by omega
      rw [hd] at r6
      by_cases hcz : c = z
      · have hh : hitV v row p f z N x = decide (c = z) := by
          rw [← r6, hv_full (by omega)]
        refine Or.inr ⟨(bif hitV v row p f z N x then 1 else 0, u), ?_, rfl, r3⟩
        unfold BX5_hasHighs_28
        rw [if_neg (show ¬ o3 N < o3 (j + 1) by rw [o3_lt (by omega) (by omega)]; omega), if_neg (show ¬ (201 : Int32) ≤ o3 (j + 1) by rw [show (201 : Int32) = o3 201 from rfl, o3_le (by omega) (by omega)]; omega), if_pos (show u.1 (63 + 2 * i) 2 ≤ o3 c by rw [ez, hcz]; exact Int32.le_refl _), efin, hh]
        cases decide (c = z) <;> rfl
      · rw [hvV, if_neg (by omega), hd2] at r6
        obtain ⟨u', y1, y2, y3, y4⟩ := step5 (h := u) (b := lxV v p f x (j + 1)) r4 r5
        have s2 := r3.trans y4
        have er : u'.2 (63 + 2 * i + 1) c = row c := by rw [(s2 _ (by omega)).2]; exact r.2 c (by omega)
        have hsw : FX3_swing 57 (o3 (f + (j + 1))) u = some (hbV (upv v (11 * p + 3) x) p (f + (j + 1))) := by
          have wu : Whl u 57 (upv v (11 * p + 3) x) p := wh.fr r3 (fun i hi => by omega)
          have spu : Spd u 57 (upv v (11 * p + 3) x) p := sp.fr r3 (by omega)
          exact swing5 wu spu okp' ok'.2.1.2 (by omega)
        have e61 : u.2 61 (j + 1) = rsV v p f (j + 1) := by
          rw [(r3 61 (by omega)).2]; exact th.2 (j + 1) (by omega)
        have ec : (o3 f + o3 (j + 1) - 1).toInt64 = o6 (f + j) := by
          rw [o3_add, n1, o3_sub (by omega) (by omega), o3_i2l (by omega), show f + (j + 1) - 1 = f + j by omega]
        have e1 : o3 (j + 1) + 1 = o3 (j + 1 + 1) := by rw [n1, o3_add]
        have e2 : o3 c + 1 = o3 (c + 1) := by rw [n1, o3_add]
        have ev : BX5_hasHighs_28 (63 + 2 * i) (o3 f) (o3 N) (o3 c, o3 (j + 1), u) = (bif evS (lxV v p f x) 1 j then (bif decide (row c = o6 (f + j)) then some (Sum.inl (o3 (c + 1), o3 (j + 1 + 1), u')) else some (Sum.inr (0, u'))) else (bif decide (row c = o6 (f + j)) then some (Sum.inr (0, u')) else some (Sum.inl (o3 c, o3 (j + 1 + 1), u')))) := by
          unfold BX5_hasHighs_28
          rw [if_neg (show ¬ o3 N < o3 (j + 1) by rw [o3_lt (by omega) (by omega)]; omega), if_neg (show ¬ (201 : Int32) ≤ o3 (j + 1) by rw [show (201 : Int32) = o3 201 from rfl, o3_le (by omega) (by omega)]; omega), if_neg (show ¬ u.1 (63 + 2 * i) 2 ≤ o3 c by rw [ez, o3_le (by omega) (by omega)]; omega), if_pos ((o3_inb (by omega)).mpr (by omega)), o3_clamp (show j + 1 < 2147483648 by omega), e61, ec, o3_add f (j + 1), hsw]
          simp only [Option.bind_some]
          rw [show rsV v p f (j + 1) + hbV (upv v (11 * p + 3) x) p (f + (j + 1)) = lxV v p f x (j + 1) from rfl, y1]
          simp only [Option.bind_some]
          rw [o3_clamp (show c < 2147483648 by omega), er, lg_dec, lg_dec, e1, e2]
          have ib : aw_inb (o3 c) 40 = true := (o3_inb (by omega)).mpr (by omega)
          by_cases he : stA (wyS (lxV v p f x) j) (sgn (lxV v p f x (j + 1)) (lxV v p f x j)) = 1
          · rw [if_pos he, if_pos ib, show evS (lxV v p f x) 1 j = true from decide_eq_true he]
            cases decide (row c = o6 (f + j)) <;> rfl
          · rw [if_neg he, if_pos ib, show evS (lxV v p f x) 1 j = false from decide_eq_false he]
            cases decide (row c = o6 (f + j)) <;> rfl
        have dec : 300 - (o3 (j + 1 + 1)).toNatClampNeg < 300 - (o3 (j + 1)).toNatClampNeg := by
          rw [o3_clamp (by omega), o3_clamp (by omega)]; omega
        rw [ev]
        by_cases hr : row c = o6 (f + j)
        · rw [decide_eq_true hr]
          cases hE : evS (lxV v p f x) 1 j with
          | true =>
            rw [hE, Bool.cond_true, if_pos hr] at r6
            exact Or.inl ⟨_, rfl, ⟨j + 1, c + 1, by omega, by omega, rfl, rfl, s2, y2, by rw [y3, wyS], r6⟩, dec⟩
          | false =>
            rw [hE, Bool.cond_false, hv_stuck (by omega) (by omega) hr _ (by omega) (by omega)] at r6
            exact Or.inr ⟨_, rfl, by rw [← r6]; rfl, s2⟩
        · rw [decide_eq_false hr]
          cases hE : evS (lxV v p f x) 1 j with
          | true =>
            rw [hE, Bool.cond_true, if_neg hr] at r6
            exact Or.inr ⟨_, rfl, by rw [← r6]; rfl, s2⟩
          | false =>
            rw [hE, Bool.cond_false] at r6
            exact Or.inl ⟨_, rfl, ⟨j + 1, c, by omega, by omega, rfl, rfl, s2, y2, by rw [y3, wyS], r6⟩, dec⟩
  obtain ⟨q, q1, q2, q3⟩ := key
  exact ⟨q.2, by rw [q1, ← q2], q3⟩
theorem highs6 {n : Nat} {h : aw_H} {v : St} {i z f N p x : Nat} {row : Nat → Int64} (md : Mod h (upv v (11 * p + 3) x)) (ok : Ok v) (hp : p < v 66) (hx : x ≤ 1023) (r : Rm h i z row) (rs : ∀ k, k ≤ N → h.2 77 k = rsV v p f k) (hi : i < 4) (hz : z ≤ 8) (hf : f ≤ 99999) (hN : N ≤ 200) (hn : 3000 ≤ n) : FX6_areHighs n (o3 i) (o3 p) (o3 f) (o3 N) h = some (bif hitV v row p f z N x then 1 else 0) := by
  have h66 := ok.1
  have ok' := ok_change (t := 3) ok (show p < 6 by omega) (by omega) (show x ≤ mostN 3 from hx)
  have okp' := ok'.2.2.2 p (by omega)
  have sw := fun t (ht : t ≤ 200000) => height6 (n := n) (t := t) md (show p < 6 by omega) okp' ok'.2.1.2 ht (by omega)
  have ib : aw_inb (o3 i) 4 = true := (o3_inb (by omega)).mpr hi
  have ic : (o3 i).toNatClampNeg = i := o3_clamp (by omega)
  unfold FX6_areHighs
  rw [sw f (by omega)]
  simp only [Option.bind_some]
  rw [rs 0 (by omega), show rsV v p f 0 + hbV (upv v (11 * p + 3) x) p f = lxV v p f x 0 from rfl]
  have key : ∃ q, aw_loop (BX6_areHighs_24 n (o3 i) (o3 p) (o3 f) (o3 N) h) n (0, 0, lxV v p f x 0, o3 f) = some q ∧ q = (bif hitV v row p f z N x then 1 else 0) := by
    refine lp_wp (fun u => ∃ j c, j ≤ N ∧ c ≤ z ∧ u.1 = o3 c ∧ u.2.1 = wyS (lxV v p f x) j ∧ u.2.2.1 = lxV v p f x j ∧ u.2.2.2 = o3 (f + j) ∧ hvV (lxV v p f x) row f z N (N - j) c = hitV v row p f z N x) (fun u => f + N - u.2.2.2.toNatClampNeg) ?_ n _ ⟨0, 0, by omega, by omega, rfl, rfl, rfl, rfl, rfl⟩ (by show f + N - (o3 f).toNatClampNeg < n; rw [o3_clamp (by omega)]; omega)
    rintro ⟨c', la, here, t'⟩ ⟨j, c, hj, hc, r1, r2, r3, r4, r6⟩
    replace r1 : c' = o3 c := r1
    replace r2 : la = wyS (lxV v p f x) j := r2
    replace r3 : here = lxV v p f x j := r3
    replace r4 : t' = o3 (f + j) := r4
    subst r1 r2 r3 r4
    have efin : ∀ {α : Type} {a b : α}, (if o3 c = h.1 75 i then a else b) = bif decide (c = z) then a else b := by
      intro α a b
      rw [r.1]
      by_cases e : c = z
      · rw [if_pos (by rw [e]), decide_eq_true e]; rfl
      · rw [if_neg (by rw [o3_eq (by omega) (by omega)]; exact e), decide_eq_false e]; rfl
    by_cases e : j = N
    · have hh : hitV v row p f z N x = decide (c = z) := by
        rw [← r6, e, Nat.sub_self]; rfl
      refine Or.inr ⟨bif hitV v row p f z N x then 1 else 0, ?_, rfl⟩
      unfold BX6_areHighs_24
      rw [if_pos (show o3 f + o3 N ≤ o3 (f + j) by rw [o3_add, e]; exact Int32.le_refl _), if_pos ib, ic, efin, hh]
      cases decide (c = z) <;> rfl
    · have hd : N - j = N - (j + 1) + 1 := by omega
      have hd2 : N - (N - (j + 1) + 1) = j := by omega
      rw [hd] at r6
      by_cases hcz : c = z
      · have hh : hitV v row p f z N x = decide (c = z) := by
          rw [← r6, hv_full (by omega)]
        refine Or.inr ⟨bif hitV v row p f z N x then 1 else 0, ?_, rfl⟩
        unfold BX6_areHighs_24
        rw [if_neg (show ¬ o3 f + o3 N ≤ o3 (f + j) by rw [o3_add, o3_le (by omega) (by omega)]; omega), if_pos ib, ic, if_pos (show h.1 75 i ≤ o3 c by rw [r.1, hcz]; exact Int32.le_refl _), if_pos ib, efin, hh]
        cases decide (c = z) <;> rfl
      · rw [hvV, if_neg (by omega), hd2] at r6
        have e1 : o3 (f + j) + 1 = o3 (f + (j + 1)) := by rw [n1, o3_add, Nat.add_assoc]
        have e2 : o3 c + 1 = o3 (c + 1) := by rw [n1, o3_add]
        have e3 : o3 (f + (j + 1)) - o3 f = o3 (j + 1) := by rw [o3_sub (by omega) (by omega), show f + (j + 1) - f = j + 1 by omega]
        have w1 := wyS_c (L := lxV v p f x) j
        have ev : BX6_areHighs_24 n (o3 i) (o3 p) (o3 f) (o3 N) h (o3 c, wyS (lxV v p f x) j, lxV v p f x j, o3 (f + j)) = (bif evS (lxV v p f x) 1 j then (bif decide (row c = o6 (f + j)) then some (Sum.inl (o3 (c + 1), wyS (lxV v p f x) (j + 1), lxV v p f x (j + 1), o3 (f + (j + 1)))) else some (Sum.inr 0)) else some (Sum.inl (o3 c, wyS (lxV v p f x) (j + 1), lxV v p f x (j + 1), o3 (f + (j + 1))))) := by
          unfold BX6_areHighs_24
          rw [if_neg (show ¬ o3 f + o3 N ≤ o3 (f + j) by rw [o3_add, o3_le (by omega) (by omega)]; omega), if_pos ib, ic, if_neg (show ¬ h.1 75 i ≤ o3 c by rw [r.1, o3_le (by omega) (by omega)]; omega)]
          simp only [e1, e2, e3]
          rw [if_pos ((o3_inb (by omega)).mpr (by omega)), sw (f + (j + 1)) (by omega), o3_clamp (show j + 1 < 2147483648 by omega), rs (j + 1) (by omega), itemOf6 hi (by omega), r.2 c (by omega)]
          simp only [Option.bind_some]
          rw [show rsV v p f (j + 1) + hbV (upv v (11 * p + 3) x) p (f + (j + 1)) = lxV v p f x (j + 1) from rfl, o3_i2l (by omega), lg_dec]
          rw [wyS]
          unfold evS
          generalize lxV v p f x (j + 1) = nx
          generalize lxV v p f x j = he
          by_cases h1 : he < nx
          · have g : sgn nx he = 1 := by unfold sgn; rw [if_pos h1]
            have c1 : 0 ≤ lg_cmp nx he := (lg_cmp_ge _ _).mpr (by rw [Int64.le_iff_toInt_le]; rw [Int64.lt_iff_toInt_lt] at h1; omega)
            have c2 : ¬ lg_cmp nx he ≤ 0 := fun q => by have := (lg_cmp_le _ _).mp q; rw [Int64.le_iff_toInt_le] at this; rw [Int64.lt_iff_toInt_lt] at h1; omega
            rw [g, if_pos c1, if_neg c2]
            rcases w1 with q | q | q <;> rw [q] <;> rfl
          · by_cases h2 : nx < he
            · have g : sgn nx he = -1 := by unfold sgn; rw [if_neg h1, if_pos h2]
              have c1 : ¬ 0 ≤ lg_cmp nx he := fun q => by have := (lg_cmp_ge _ _).mp q; rw [Int64.le_iff_toInt_le] at this; rw [Int64.lt_iff_toInt_lt] at h2; omega
              have c2 : lg_cmp nx he ≤ 0 := (lg_cmp_le _ _).mpr (by rw [Int64.le_iff_toInt_le]; rw [Int64.lt_iff_toInt_lt] at h2; omega)
              simp only [if_neg c1, if_pos c2]
              rw [g]
              rcases w1 with q | q | q
              · rw [q]
                cases decide (row c = o6 (f + j)) <;> rfl
              · rw [q]; rfl
              · rw [q]; rfl
            · have g : sgn nx he = 0 := by unfold sgn; rw [if_neg h1, if_neg h2]
              have c1 : 0 ≤ lg_cmp nx he := (lg_cmp_ge _ _).mpr (by rw [Int64.le_iff_toInt_le]; rw [Int64.lt_iff_toInt_lt] at h2; omega)
              have c2 : lg_cmp nx he ≤ 0 := (lg_cmp_le _ _).mpr (by rw [Int64.le_iff_toInt_le]; rw [Int64.lt_iff_toInt_lt] at h1; omega)
              rw [g, if_pos c1, if_pos c2, if_pos c1]
              rcases w1 with q | q | q <;> rw [q] <;> rfl
        have dec : f + N - (o3 (f + (j + 1))).toNatClampNeg < f + N - (o3 (f + j)).toNatClampNeg := by
          rw [o3_clamp (by omega), o3_clamp (by omega)]; omega
        rw [ev]
        cases hE : evS (lxV v p f x) 1 j with
        | true =>
          by_cases hr : row c = o6 (f + j)
          · rw [decide_eq_true hr]
            rw [hE, Bool.cond_true, if_pos hr] at r6
            exact Or.inl ⟨_, rfl, ⟨j + 1, c + 1, by omega, by omega, rfl, rfl, rfl, rfl, r6⟩, dec⟩
          · rw [decide_eq_false hr]
            rw [hE, Bool.cond_true, if_neg hr] at r6
            exact Or.inr ⟨_, rfl, by rw [← r6]; rfl⟩
        | false =>
          rw [hE, Bool.cond_false] at r6
          exact Or.inl ⟨_, rfl, ⟨j + 1, c, by omega, by omega, rfl, rfl, rfl, rfl, r6⟩, dec⟩
  obtain ⟨q, q1, q2⟩ := key
  rw [← q2]
  exact q1

/-! by which number of one part alone all is so -/
theorem most_ro (t : Nat) (ht : t < 4) : aw_ro 0 t + 1 = o3 (mostN t + 1) := by
  rcases (show t = 0 ∨ t = 1 ∨ t = 2 ∨ t = 3 by omega) with rfl | rfl | rfl | rfl <;> decide
/-- the number found for part p, or -1 -/
def fndV (v : St) (row : Nat → Int64) (f z p t : Nat) : Int32 := jamN (fun x => !soV v row f z p t x) (mostN t + 1) (mostN t + 1)
def outV (v : St) (row : Nat → Int64) (f z t : Nat) : Nat → Int32
  | 0 => -1
  | d + 1 => if fndV v row f z (v 66 - (d + 1)) t = -1 then outV v row f z t d else o3 (mostN t + 1) * o3 (v 66 - (d + 1)) + fndV v row f z (v 66 - (d + 1)) t
theorem wrong_in5 {n : Nat} {h : aw_H} {v : St} {i z f p t : Nat} {row : Nat → Int64} {g : aw_H} (ok : Ok v) (hp : p < v 66) (ht : t < 4) (r : Rw h i z row) (th : Thk h v p f z) (wh : Whl h 57 v p) (hi : i < 4) (hz : z ≤ 8) (hf : f ≤ 99999) (hn : 3000 ≤ n) : ∃ q, aw_loop (BX5_wrongBy_46 n (o3 t) (63 + 2 * i) (o3 f) (o3 p, g)) n (0, h) = some q ∧ ∃ H, Same ThS h H ∧ ((fndV v row f z p t = -1 ∧ q = Sum.inl (o3 (p + 1), H)) ∨ (¬ fndV v row f z p t = -1 ∧ q = Sum.inr (o3 (mostN t + 1) * o3 p + fndV v row f z p t, H))) := by
  have mx := most_lt t ht
  refine lp_wp (fun u => ∃ x, x ≤ mostN t + 1 ∧ u.1 = o3 x ∧ Same ThS h u.2 ∧ (∃ y, Whl u.2 57 (upv v (11 * p + t) y) p) ∧ Thk u.2 v p f z ∧ jamN (fun x => !soV v row f z p t x) (mostN t + 1) (mostN t + 1 - x) = fndV v row f z p t) (fun u => 1100 - u.1.toNatClampNeg) ?_ n _ ⟨0, by omega, rfl, Same.rfl, ⟨v (11 * p + t), by rw [upv_self]; exact wh⟩, th, rfl⟩ (by show 1100 - _ < n; omega)
  rintro ⟨x', u⟩ ⟨x, hx, r1, r2, r3, r4, r5⟩
  replace r1 : x' = o3 x := r1
  replace r2 : Same ThS h u := r2
  replace r3 : ∃ y, Whl u 57 (upv v (11 * p + t) y) p := r3
  replace r4 : Thk u v p f z := r4
  subst r1
  obtain ⟨y, r3⟩ := r3
  have et : (o3 t).toNatClampNeg = t := o3_clamp (by omega)
  by_cases e : x = mostN t + 1
  · rw [e, Nat.sub_self] at r5
    refine Or.inr ⟨Sum.inl (o3 (p + 1), u), ?_, u, r2, Or.inl ⟨r5.symm, rfl⟩⟩
    unfold BX5_wrongBy_46
    rw [et, most_ro t ht, if_pos (show o3 (mostN t + 1) ≤ o3 x by rw [e]; exact Int32.le_refl _), n1, o3_add]
  · have wu := think_set (x := x) ht r3
    have su : Same ThS u (aw_sI u 58 t (o3 x)) := Same.sI (show ThS 58 by unfold ThS; omega)
    have ru : Rw (aw_sI u 58 t (o3 x)) i z row := by
      have s2 := r2.trans su
      refine ⟨?_, fun k hk => ?_⟩
      · rw [(s2 _ (by unfold ThS; omega)).1]; exact r.1
      · rw [(s2 _ (by unfold ThS; omega)).2]; exact r.2 k hk
    have tu : Thk (aw_sI u 58 t (o3 x)) v p f z := ⟨r4.1.fr (Same.sI (S := fun q => q = 58) rfl) (by omega), r4.2⟩
    have ha := all5 (n := n) ok hp ht (show x ≤ mostN t by omega) ru tu wu hz hf hn
    have ev : BX5_wrongBy_46 n (o3 t) (63 + 2 * i) (o3 f) (o3 p, g) (o3 x, u) = (bif soV v row f z p t x then some (Sum.inr (Sum.inr (o3 (mostN t + 1) * o3 p + o3 x, aw_sI u 58 t (o3 x)))) else some (Sum.inl (o3 (x + 1), aw_sI u 58 t (o3 x)))) := by
      unfold BX5_wrongBy_46
      rw [et, most_ro t ht, if_neg (show ¬ o3 (mostN t + 1) ≤ o3 x by rw [o3_le (by omega) (by omega)]; omega), if_pos ((o3_inb (by omega)).mpr ht)]
      show (Option.bind (FX5_isAllSo n (63 + 2 * i) (o3 f) (aw_sI u 58 t (o3 x))) _) = _
      rw [ha]
      simp only [Option.bind_some]
      rw [n1, o3_add]
      cases soV v row f z p t x <;> rfl
    have hd : mostN t + 1 - x = mostN t + 1 - (x + 1) + 1 := by omega
    rw [hd, jamN, show mostN t + 1 - (mostN t + 1 - (x + 1) + 1) = x by omega] at r5
    rw [ev]
    cases hq : soV v row f z p t x with
    | true =>
      rw [hq] at r5
      have r5 : o3 x = fndV v row f z p t := r5
      have hne : ¬ fndV v row f z p t = -1 := by rw [← r5]; exact o3_ne_neg1 (by omega)
      exact Or.inr ⟨_, rfl, aw_sI u 58 t (o3 x), r2.trans su, Or.inr ⟨hne, by rw [r5]⟩⟩
    | false =>
      rw [hq] at r5
      refine Or.inl ⟨_, rfl, ⟨x + 1, by omega, rfl, r2.trans su, ⟨x, wu⟩, tu, r5⟩, ?_⟩
      show 1100 - (o3 (x + 1)).toNatClampNeg < 1100 - (o3 x).toNatClampNeg
      rw [o3_clamp (by omega), o3_clamp (by omega)]; omega
theorem wrong5 {n : Nat} {h : aw_H} {v : St} {i z f t : Nat} {row : Nat → Int64} (w : Wks h 1 3 v) (ok : Ok v) (ht : t < 4) (r : Rw h i z row) (hi : i < 4) (hz : z ≤ 8) (hf : f ≤ 99999) (hn : 3000 ≤ n) : ∃ q, FX5_wrongBy n (o3 t) (63 + 2 * i) (o3 f) h = some q ∧ q.1 = outV v row f z t (v 66) ∧ Same ThS h q.2 := by
  have h66 := ok.1
  unfold FX5_wrongBy
  rw [if_pos ((o3_inb (show t < 2147483648 by omega)).mpr ht)]
  refine lp_wp (fun u => ∃ p, p ≤ v 66 ∧ u.1 = o3 p ∧ Same ThS h u.2 ∧ outV v row f z t (v 66 - p) = outV v row f z t (v 66)) (fun u => 10 - u.1.toNatClampNeg) ?_ n _ ⟨0, by omega, rfl, Same.rfl, rfl⟩ (by show 10 - _ < n; omega)
  rintro ⟨p', u⟩ ⟨p, hp, r1, r2, r3⟩
  replace r1 : p' = o3 p := r1
  replace r2 : Same ThS h u := r2
  subst r1
  have wu : Wks u 1 3 v := w.fr r2 (by unfold ThS; omega) (fun q q1 q2 => by unfold ThS; omega)
  by_cases e : p = v 66
  · refine Or.inr ⟨(-1, u), ?_, ?_, r2⟩
    · unfold BX5_wrongBy_12
      rw [if_pos (show u.1 1 1 ≤ o3 p by rw [wu.1, e]; exact Int32.le_refl _)]
    · rw [e, Nat.sub_self] at r3
      exact r3
  · have hp2 : p < v 66 := by omega
    obtain ⟨H, t1, t2, t3, t4⟩ := think5 (n := n) (m := z) wu ok hp2 hf (by omega) hn
    have su := r2.trans t2
    have ru : Rw H i z row := by
      refine ⟨?_, fun k hk => ?_⟩
      · rw [(su _ (by unfold ThS; omega)).1]; exact r.1
      · rw [(su _ (by unfold ThS; omega)).2]; exact r.2 k hk
    have ru0 : u.1 (63 + 2 * i) 2 = o3 z := by rw [(r2 _ (by unfold ThS; omega)).1]; exact r.1
    obtain ⟨q, q1, H2, q2, q3⟩ := wrong_in5 (n := n) (g := u) ok hp2 ht ru t4 t3 hi hz hf hn
    have ev : BX5_wrongBy_12 n (o3 t) (63 + 2 * i) (o3 f) (o3 p, u) = some q := by
      unfold BX5_wrongBy_12
      rw [if_neg (show ¬ u.1 1 1 ≤ o3 p by rw [wu.1, o3_le (by omega) (by omega)]; omega), if_pos ((o3_inb (by omega)).mpr (by omega))]
      simp only [o3_clamp (show p < 2147483648 by omega), ru0, t1, Option.bind_some]
      exact q1
    have hd : v 66 - p = v 66 - (p + 1) + 1 := by omega
    rw [hd, outV, show v 66 - (v 66 - (p + 1) + 1) = p by omega] at r3
    rw [ev]
    rcases q3 with ⟨c1, rfl⟩ | ⟨c1, rfl⟩
    · rw [if_pos c1] at r3
      refine Or.inl ⟨_, rfl, ⟨p + 1, by omega, rfl, su.trans q2, r3⟩, ?_⟩
      show 10 - (o3 (p + 1)).toNatClampNeg < 10 - (o3 p).toNatClampNeg
      rw [o3_clamp (by omega), o3_clamp (by omega)]; omega
    · rw [if_neg c1] at r3
      exact Or.inr ⟨_, rfl, r3, su.trans q2⟩
theorem wrong_in6 {n : Nat} {h : aw_H} {v : St} {i z f p t : Nat} {row : Nat → Int64} {g : aw_H} (md : Mod h v) (ok : Ok v) (hp : p < v 66) (ht : t < 4) (r : Rm h i z row) (hi : i < 4) (hz : z ≤ 8) (hf : f ≤ 99999) (hn : 3000 ≤ n) : ∃ q, aw_loop (BX6_wrongBy_30 n (o3 i) (o3 f) (o3 t) (o3 (mostN t + 1)) (o3 p, g) (o3 (v (11 * p + t)))) n (-1, 0, h) = some q ∧ ∃ H, Same (fun q => q = 72) h H ∧ Mod H v ∧ ((fndV v row f z p t = -1 ∧ q = Sum.inl (o3 (p + 1), H)) ∨ (¬ fndV v row f z p t = -1 ∧ q = Sum.inr (o3 (mostN t + 1) * o3 p + fndV v row f z p t, H))) := by
  have mx := most_lt t ht
  have h66 := ok.1
  refine lp_wp (fun u => ∃ x, x ≤ mostN t + 1 ∧ u.2.1 = o3 x ∧ Same (fun q => q = 72) h u.2.2 ∧ (∃ y, Mod u.2.2 (upv v (11 * p + t) y)) ∧ ((u.1 = -1 ∧ jamN (fun x => !soV v row f z p t x) (mostN t + 1) (mostN t + 1 - x) = fndV v row f z p t) ∨ (¬ u.1 = -1 ∧ u.1 = fndV v row f z p t))) (fun u => 1100 - u.2.1.toNatClampNeg) ?_ n _ ⟨0, by omega, rfl, Same.rfl, ⟨v (11 * p + t), by rw [upv_self]; exact md⟩, Or.inl ⟨rfl, rfl⟩⟩ (by show 1100 - _ < n; omega)
  rintro ⟨c, x', u⟩ ⟨x, hx, r1, r2, ⟨y, r3⟩, r4⟩
  replace r1 : x' = o3 x := r1
  replace r2 : Same (fun q => q = 72) h u := r2
  replace r3 : Mod u (upv v (11 * p + t) y) := r3
  replace r4 : (c = -1 ∧ jamN (fun x => !soV v row f z p t x) (mostN t + 1) (mostN t + 1 - x) = fndV v row f z p t) ∨ (¬ c = -1 ∧ c = fndV v row f z p t) := r4
  subst r1
  have ly : ∀ w : Int32, FX6_lays (o3 p) (o3 t) w u = some (aw_sI u 72 (11 * p + t) w) := fun w => lays6 (by omega) (by omega)
  have back : Mod (aw_sI u 72 (11 * p + t) (o3 (v (11 * p + t)))) v := by
    have := r3.upv (11 * p + t) (v (11 * p + t))
    rw [upv_upv, upv_self] at this
    exact this
  have sb : Same (fun q => q = 72) h (aw_sI u 72 (11 * p + t) (o3 (v (11 * p + t)))) := r2.trans (Same.sI (S := fun q => q = 72) rfl)
  have e1 : o3 p + 1 = o3 (p + 1) := by rw [n1, o3_add]
  by_cases e : x = mostN t + 1
  · have ev : BX6_wrongBy_30 n (o3 i) (o3 f) (o3 t) (o3 (mostN t + 1)) (o3 p, g) (o3 (v (11 * p + t))) (c, o3 x, u) = (if c = -1 then some (Sum.inr (Sum.inl (o3 (p + 1), aw_sI u 72 (11 * p + t) (o3 (v (11 * p + t)))))) else some (Sum.inr (Sum.inr (o3 (mostN t + 1) * o3 p + c, aw_sI u 72 (11 * p + t) (o3 (v (11 * p + t))))))) := by
      unfold BX6_wrongBy_30
      rw [if_pos (show o3 (mostN t + 1) ≤ o3 x by rw [e]; exact Int32.le_refl _)]
      simp only [ly, Option.bind_some, e1]
    rw [ev]
    rcases r4 with ⟨d1, d2⟩ | ⟨d1, d2⟩
    · rw [e, Nat.sub_self] at d2
      exact Or.inr ⟨_, if_pos d1, _, sb, back, Or.inl ⟨d2.symm, rfl⟩⟩
    · exact Or.inr ⟨_, if_neg d1, _, sb, back, Or.inr ⟨by rw [← d2]; exact d1, by rw [← d2]⟩⟩
  · have ex : o3 x + 1 = o3 (x + 1) := by rw [n1, o3_add]
    have dec : 1100 - (o3 (x + 1)).toNatClampNeg < 1100 - (o3 x).toNatClampNeg := by
      rw [o3_clamp (by omega), o3_clamp (by omega)]; omega
    rcases r4 with ⟨d1, d2⟩ | ⟨d1, d2⟩
    · have ok' := ok_change (x := x) ok (show p < 6 by omega) ht (by omega)
      have m' : Mod (aw_sI u 72 (11 * p + t) (o3 x)) (upv v (11 * p + t) x) := by
        have := r3.upv (11 * p + t) x
        rw [upv_upv] at this
        exact this
      have su := r2.trans (Same.sI (S := fun q => q = 72) (h := u) (c := 72) (k := 11 * p + t) (x := o3 x) rfl)
      have rm : Rm (aw_sI u 72 (11 * p + t) (o3 x)) i z row := by
        refine ⟨?_, fun k hk => ?_⟩
        · rw [(su 75 (by omega)).1]; exact r.1
        · rw [(su 76 (by omega)).2]; exact r.2 k hk
      have hf6 := first6 (n := n) m' ok' rm hi (by omega) hf hn
      have ev : BX6_wrongBy_30 n (o3 i) (o3 f) (o3 t) (o3 (mostN t + 1)) (o3 p, g) (o3 (v (11 * p + t))) (c, o3 x, u) = (bif soV v row f z p t x then some (Sum.inl (o3 x, o3 (x + 1), aw_sI u 72 (11 * p + t) (o3 x))) else some (Sum.inl (-1, o3 (x + 1), aw_sI u 72 (11 * p + t) (o3 x)))) := by
        unfold BX6_wrongBy_30
        rw [if_neg (show ¬ o3 (mostN t + 1) ≤ o3 x by rw [o3_le (by omega) (by omega)]; omega)]
        simp only [ly, Option.bind_some, hf6, ex]
        rw [if_pos d1]
        by_cases hq : firV (upv v (11 * p + t) x) row f z = -1
        · rw [if_pos hq, show soV v row f z p t x = true from decide_eq_true hq]; rfl
        · rw [if_neg hq, show soV v row f z p t x = false from decide_eq_false hq]; rfl
      have hd : mostN t + 1 - x = mostN t + 1 - (x + 1) + 1 := by omega
      rw [hd, jamN, show mostN t + 1 - (mostN t + 1 - (x + 1) + 1) = x by omega] at d2
      rw [ev]
      cases hq : soV v row f z p t x with
      | true =>
        rw [hq] at d2
        have d2 : o3 x = fndV v row f z p t := d2
        exact Or.inl ⟨_, rfl, ⟨x + 1, by omega, rfl, su, ⟨x, m'⟩, Or.inr ⟨o3_ne_neg1 (by omega), d2⟩⟩, dec⟩
      | false =>
        rw [hq] at d2
        exact Or.inl ⟨_, rfl, ⟨x + 1, by omega, rfl, su, ⟨x, m'⟩, Or.inl ⟨rfl, d2⟩⟩, dec⟩
    · have ev : BX6_wrongBy_30 n (o3 i) (o3 f) (o3 t) (o3 (mostN t + 1)) (o3 p, g) (o3 (v (11 * p + t))) (c, o3 x, u) = some (Sum.inr (Sum.inr (o3 (mostN t + 1) * o3 p + c, aw_sI u 72 (11 * p + t) (o3 (v (11 * p + t)))))) := by
        unfold BX6_wrongBy_30
        rw [if_neg (show ¬ o3 (mostN t + 1) ≤ o3 x by rw [o3_le (by omega) (by omega)]; omega)]
        simp only [ly, Option.bind_some]
        rw [if_neg d1, if_neg d1]
      rw [ev]
      exact Or.inr ⟨_, rfl, _, sb, back, Or.inr ⟨by rw [← d2]; exact d1, by rw [← d2]⟩⟩
theorem wrong6 {n : Nat} {h : aw_H} {v : St} {i z f t : Nat} {row : Nat → Int64} (md : Mod h v) (ok : Ok v) (ht : t < 4) (r : Rm h i z row) (hi : i < 4) (hz : z ≤ 8) (hf : f ≤ 99999) (hn : 3000 ≤ n) : ∃ q, FX6_wrongBy n (o3 i) (o3 f) (o3 t) (o3 (mostN t + 1)) h = some q ∧ q.1 = outV v row f z t (v 66) ∧ Same (fun q => q = 72) h q.2 ∧ Mod q.2 v := by
  have h66 := ok.1
  unfold FX6_wrongBy
  refine lp_wp (fun u => ∃ p, p ≤ v 66 ∧ u.1 = o3 p ∧ Same (fun q => q = 72) h u.2 ∧ Mod u.2 v ∧ outV v row f z t (v 66 - p) = outV v row f z t (v 66)) (fun u => 10 - u.1.toNatClampNeg) ?_ n _ ⟨0, by omega, rfl, Same.rfl, md, rfl⟩ (by show 10 - _ < n; omega)
  rintro ⟨p', u⟩ ⟨p, hp, r1, r2, r2', r3⟩
  replace r1 : p' = o3 p := r1
  replace r2 : Same (fun q => q = 72) h u := r2
  replace r2' : Mod u v := r2'
  subst r1
  have e66 := r2' 66 (by omega)
  by_cases e : p = v 66
  · refine Or.inr ⟨(-1, u), ?_, ?_, r2, r2'⟩
    · unfold BX6_wrongBy_3
      rw [if_pos (show u.1 72 66 ≤ o3 p by rw [e66, e]; exact Int32.le_refl _)]
    · rw [e, Nat.sub_self] at r3
      exact r3
  · have hp2 : p < v 66 := by omega
    have ru : Rm u i z row := by
      refine ⟨?_, fun k hk => ?_⟩
      · rw [(r2 75 (by omega)).1]; exact r.1
      · rw [(r2 76 (by omega)).2]; exact r.2 k hk
    obtain ⟨q, q1, H2, q2, q2', q3⟩ := wrong_in6 (n := n) (g := u) r2' ok hp2 ht ru hi hz hf hn
    have ev : BX6_wrongBy_3 n (o3 i) (o3 f) (o3 t) (o3 (mostN t + 1)) (o3 p, u) = some q := by
      unfold BX6_wrongBy_3
      rw [if_neg (show ¬ u.1 72 66 ≤ o3 p by rw [e66, o3_le (by omega) (by omega)]; omega)]
      simp only [at6 r2' (show p < 6 by omega) (show t < 11 by omega), Option.bind_some]
      exact q1
    have hd : v 66 - p = v 66 - (p + 1) + 1 := by omega
    rw [hd, outV, show v 66 - (v 66 - (p + 1) + 1) = p by omega] at r3
    rw [ev]
    rcases q3 with ⟨c1, rfl⟩ | ⟨c1, rfl⟩
    · rw [if_pos c1] at r3
      refine Or.inl ⟨_, rfl, ⟨p + 1, by omega, rfl, r2.trans q2, q2', r3⟩, ?_⟩
      show 10 - (o3 (p + 1)).toNatClampNeg < 10 - (o3 p).toNatClampNeg
      rw [o3_clamp (by omega), o3_clamp (by omega)]; omega
    · rw [if_neg c1] at r3
      exact Or.inr ⟨_, rfl, r3, r2.trans q2, q2'⟩
/-- scratch of the class, then numbers of the model as they were -/
theorem Rel.thk {h h1 h2 : aw_H} {v : St} (k : Rel h) (ok : Ok v) (w : Wks h 1 3 v) (s1 : Same Scr h h1) (a1 : h1.1 71 2 = h.1 71 2) (a2 : h1.1 54 1 = h.1 54 1) (a3 : h1.1 71 12 = h.1 71 12) (s2 : Same (fun q => q = 72) h1 h2) (m : Mod h2 v) : Rel h2 := by
  have k1 := k.fr s1 a1 a2 a3
  have w1 : Wks h1 1 3 v := w.fr s1 (by unfold Scr; omega) (fun q q1 q2 => by unfold Scr; omega)
  exact k1.works (s2.mono (fun q hq => by unfold WrkS; omega)) v ok (w1.fr s2 (by omega) (fun q q1 q2 => by omega)) m
theorem ths_scr {h h1 : aw_H} (s : Same ThS h h1) : Same Scr h h1 ∧ h1.1 71 2 = h.1 71 2 ∧ h1.1 54 1 = h.1 54 1 ∧ h1.1 71 12 = h.1 71 12 := by
  refine ⟨s.mono (fun q hq => ?_), ?_, ?_, ?_⟩
  · unfold ThS at hq; unfold Scr; omega
  · rw [(s 71 (by unfold ThS; omega)).1]
  · rw [(s 54 (by unfold ThS; omega)).1]
  · rw [(s 71 (by unfold ThS; omega)).1]
theorem c_tells {n : Nat} {h : aw_H} (k : Rel h) (hn : 3000 ≤ n) (a1 a2 a3 : Int32) : Sim (FX5_tells n a1 a2 a3 h) (FX6_tells n a1 a2 a3) := by
  obtain ⟨v, ok, w, md⟩ := k.1
  rcases sheet_g a1 with ⟨f1, f2⟩ | ⟨i, i1, i2, i3, i4⟩
  · exact ⟨-2, h, h, by simp only [FX5_tells, f1, if_true], by simp only [FX6_tells, f2, if_true], k⟩
  rcases tick_g a2 with ⟨f1, f2⟩ | ⟨f, t1, t2, t3, t4⟩
  · exact ⟨-2, h, h, by simp only [FX5_tells, i3, f1, if_true, if_false], by simp only [FX6_tells, i4, f2, if_true, if_false], k⟩
  rcases rng a3 0 3 0 3 0 3 rfl rfl rfl rfl (by omega) (by omega) with ⟨f1, f2, -⟩ | ⟨x, c1, c2, c3, c4, c5⟩
  · exact ⟨-2, h, h, by simp only [FX5_tells, i3, t3, f1, if_true, if_false], by simp only [FX6_tells, i4, t4, f2, if_true, if_false], k⟩
  subst i1 t1 c1
  have ib : aw_inb (o3 i) 4 = true := (o3_inb (by omega)).mpr i2
  have ic : (o3 i).toNatClampNeg = i := o3_clamp (by omega)
  obtain ⟨⟨s1, s2⟩, ⟨z, z1, z2, z3⟩, s3⟩ := k.2.2.1 i i2
  by_cases hm : h.1 74 i = -1
  · have e1 : FX1_isMissing (63 + 2 * i) h = 1 := by unfold FX1_isMissing; rw [s1, if_pos hm]
    have e2 : FX1_canTell (63 + 2 * i) h = 0 := by unfold FX1_canTell; rw [e1, if_neg one_ne]
    exact ⟨-11, h, h, by simp only [FX5_tells, i3, t3, c4, ib, ic, e1, e2, if_true, if_false, one_ne], by simp only [FX6_tells, i4, t4, c5, ib, ic, hm, if_true, if_false], k⟩
  have e1 : FX1_isMissing (63 + 2 * i) h = 0 := by unfold FX1_isMissing; rw [s1, if_neg hm]
  by_cases hz : z ≤ 8
  · have e2 : FX1_canTell (63 + 2 * i) h = 1 := by
      unfold FX1_canTell
      rw [e1, if_pos rfl, z2, if_neg (show ¬ (8 : Int32) < o3 z by rw [n8, o3_lt (by omega) (by omega)]; omega)]
    have e3 : h.1 75 i ≤ 8 := by rw [z3, n8, o3_le (by omega) (by omega)]; exact hz
    obtain ⟨row, hrow⟩ : ∃ row, row = fun k => h.2 (63 + 2 * i + 1) k := ⟨_, rfl⟩
    have rw5 : Rw h i z row := ⟨z2, fun k hk => by rw [hrow]⟩
    have rm6 : Rm h i z row := ⟨z3, fun k hk => by rw [hrow]; exact (s3 k hk).symm⟩
    have wr : ∀ t, t < 4 → ∃ (y : Int32) (h1 h2 : aw_H), FX5_wrongBy n (o3 t) (63 + 2 * i) (o3 f) h = some (y, h1) ∧ h1.1 74 i = h.1 74 i ∧ h1.1 75 i = h.1 75 i ∧ FX6_wrongBy n (o3 i) (o3 f) (o3 t) (o3 (mostN t + 1)) h1 = some (y, h2) ∧ Rel h2 := by
      intro t ht
      obtain ⟨q, q1, q2, q3⟩ := wrong5 (n := n) w ok ht rw5 i2 hz t2 hn
      have rm1 : Rm q.2 i z row := by
        refine ⟨?_, fun k hk => ?_⟩
        · rw [(q3 75 (by unfold ThS; omega)).1]; exact rm6.1
        · rw [(q3 76 (by unfold ThS; omega)).2]; exact rm6.2 k hk
      obtain ⟨q', y1, y2, y3, y4⟩ := wrong6 (n := n) (md.fr q3 (by unfold ThS; omega)) ok ht rm1 i2 hz t2 hn
      obtain ⟨b1, b2, b3, b4⟩ := ths_scr q3
      refine ⟨q.1, q.2, q'.2, q1, by rw [(q3 74 (by unfold ThS; omega)).1], by rw [(q3 75 (by unfold ThS; omega)).1], ?_, k.thk ok w b1 b2 b3 b4 y3 y4⟩
      rw [y1, q2, ← y2]
    have d1 : ¬ (1 : Int32) = 0 := by decide
    rcases (show x = 0 ∨ x = 1 ∨ x = 2 ∨ x = 3 by omega) with rfl | rfl | rfl | rfl
    · refine ⟨firV v row f z, h, h, ?_, ?_, k⟩
      · simp only [FX5_tells, i3, t3, c4, ib, ic, e2, if_true, if_false, one_ne]
        rw [if_pos (show o3 0 = 0 from rfl), first5 w ok rw5 (by omega) t2 hn]; rfl
      · simp only [FX6_tells, i4, t4, c5, ib, ic, hm, e3, if_true, if_false]
        rw [if_pos (show o3 0 = 0 from rfl), first6 md ok rm6 i2 (by omega) t2 hn]; rfl
    · obtain ⟨y, h1, h2, y1, y2, y3, y4, y5⟩ := wr 3 (by omega)
      refine ⟨y, h1, h2, ?_, ?_, y5⟩
      · simp only [FX5_tells, i3, t3, c4, ib, ic, e2, if_true, if_false, one_ne]
        rw [if_neg (show ¬ o3 1 = 0 by decide), if_pos (show o3 1 = 1 from rfl), n3, y1]; rfl
      · rw [← y2] at hm
        rw [← y3] at e3
        simp only [FX6_tells, i4, t4, c5, ib, ic, hm, e3, if_true, if_false]
        rw [if_neg (show ¬ o3 1 = 0 by decide), if_pos (show o3 1 = 1 from rfl), n3, show (1024 : Int32) = o3 (mostN 3 + 1) from rfl, y4]; rfl
    · obtain ⟨y, h1, h2, y1, y2, y3, y4, y5⟩ := wr 2 (by omega)
      refine ⟨y, h1, h2, ?_, ?_, y5⟩
      · simp only [FX5_tells, i3, t3, c4, ib, ic, e2, if_true, if_false, one_ne]
        rw [if_neg (show ¬ o3 2 = 0 by decide), if_neg (show ¬ o3 2 = 1 by decide), if_pos (show o3 2 = 2 from rfl), n2, y1]; rfl
      · rw [← y2] at hm
        rw [← y3] at e3
        simp only [FX6_tells, i4, t4, c5, ib, ic, hm, e3, if_true, if_false]
        rw [if_neg (show ¬ o3 2 = 0 by decide), if_neg (show ¬ o3 2 = 1 by decide), if_pos (show o3 2 = 2 from rfl), n2, show (1000 : Int32) = o3 (mostN 2 + 1) from rfl, y4]; rfl
    · obtain ⟨y, h1, h2, y1, y2, y3, y4, y5⟩ := wr 0 (by omega)
      refine ⟨y, h1, h2, ?_, ?_, y5⟩
      · simp only [FX5_tells, i3, t3, c4, ib, ic, e2, if_true, if_false, one_ne]
        rw [if_neg (show ¬ o3 3 = 0 by decide), if_neg (show ¬ o3 3 = 1 by decide), if_neg (show ¬ o3 3 = 2 by decide), n0, y1]; rfl
      · rw [← y2] at hm
        rw [← y3] at e3
        simp only [FX6_tells, i4, t4, c5, ib, ic, hm, e3, if_true, if_false]
        rw [if_neg (show ¬ o3 3 = 0 by decide), if_neg (show ¬ o3 3 = 1 by decide), if_neg (show ¬ o3 3 = 2 by decide), n0, show (6 : Int32) = o3 (mostN 0 + 1) from rfl, y4]; rfl
  · have e2 : FX1_canTell (63 + 2 * i) h = 0 := by
      unfold FX1_canTell
      rw [e1, if_pos rfl, z2, if_pos (show (8 : Int32) < o3 z by rw [n8, o3_lt (by omega) (by omega)]; omega)]
    have e3 : ¬ h.1 75 i ≤ 8 := by rw [z3, n8, o3_le (by omega) (by omega)]; exact hz
    exact ⟨-2, h, h, by simp only [FX5_tells, i3, t3, c4, ib, ic, e1, e2, if_true, if_false], by simp only [FX6_tells, i4, t4, c5, ib, ic, hm, e3, if_true, if_false], k⟩

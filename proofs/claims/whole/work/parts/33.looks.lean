/-! two loops side by side; what only looks at the works -/
theorem lp_two {S S' R R' : Type} {B : S → Option (S ⊕ R)} {B' : S' → Option (S' ⊕ R')} {Q : R → R' → Prop} (I : S → S' → Prop) (μ : S → Nat) (hb : ∀ s s', I s s' → (∃ t t', B s = some (.inl t) ∧ B' s' = some (.inl t') ∧ I t t' ∧ μ t < μ s) ∨ (∃ q q', B s = some (.inr q) ∧ B' s' = some (.inr q') ∧ Q q q')) : ∀ (n m : Nat) (s : S) (s' : S'), I s s' → μ s < n → μ s < m → ∃ q q', aw_loop B n s = some q ∧ aw_loop B' m s' = some q' ∧ Q q q'
  | 0, _, s, _, _, hn, _ => absurd hn (Nat.not_lt_zero _)
  | _ + 1, 0, s, _, _, _, hm => absurd hm (Nat.not_lt_zero _)
  | n + 1, m + 1, s, s', hI, hn, hm => by
    rcases hb s s' hI with ⟨t, t', h1, h2, h3, h4⟩ | ⟨q, q', h1, h2, h3⟩
    · obtain ⟨q, q', h5, h6, h7⟩ := lp_two I μ hb n m t t' h3 (by omega) (by omega)
      exact ⟨q, q', by rw [aw_loop, h1]; exact h5, by rw [aw_loop, h2]; exact h6, h7⟩
    · exact ⟨q, q', by rw [aw_loop, h1], by rw [aw_loop, h2], h3⟩
theorem within_o3 {x lo hi : Nat} (hx : x < 2147483648) (hl : lo < 2147483648) (hh : hi < 2147483648) : (FX5_within (o3 x) (o3 lo) (o3 hi) = 0) ↔ ¬ (lo ≤ x ∧ x ≤ hi) := by
  rw [within_iff, o3_le hl hx, o3_le hx hh]
theorem isIn_o3 {x lo hi : Nat} (hx : x < 2147483648) (hl : lo < 2147483648) (hh : hi < 2147483648) : (FX6_isIn (o3 x).toInt64 (o6 lo) (o6 hi) = 0) ↔ ¬ (lo ≤ x ∧ x ≤ hi) := by
  rw [isIn_iff, o3_i2l hx, o6_le (by omega) (by omega), o6_le (by omega) (by omega)]
theorem within_out {a : Int32} {lo hi LO HI : Nat} (h : ¬ ((LO : Int) ≤ a.toInt ∧ a.toInt ≤ HI)) (h1 : LO ≤ lo) (h2 : hi ≤ HI) (hl : lo < 2147483648) (hh : hi < 2147483648) : FX5_within a (o3 lo) (o3 hi) = 0 := by
  rw [within_iff, Int32.le_iff_toInt_le, Int32.le_iff_toInt_le, o3_toInt hl, o3_toInt hh]; omega
theorem isIn_out {a : Int32} {lo hi LO HI : Nat} (h : ¬ ((LO : Int) ≤ a.toInt ∧ a.toInt ≤ HI)) (h1 : LO ≤ lo) (h2 : hi ≤ HI) (hl : lo < 2147483648) (hh : hi < 2147483648) : FX6_isIn a.toInt64 (o6 lo) (o6 hi) = 0 := by
  rw [isIn_iff, Int64.le_iff_toInt_le, Int64.le_iff_toInt_le, Int32.toInt_toInt64, o6_toInt (by omega), o6_toInt (by omega)]; omega
theorem toothA {h : aw_H} {v : St} {w p k : Nat} (wh : Whl h w v p) (ok : OkP v p) (hk : k < 3) : FX3_toothOf w (w + 2) (o3 k) h = some (if v (11 * p + 4) ≤ k then -1 else o3 (v (11 * p + 5 + k))) := by
  have o4 := ok.2.2.2.2.1
  unfold FX3_toothOf
  rw [if_neg (show ¬ o3 k < 0 by rw [n0, o3_lt (by omega) (by omega)]; omega), wh.2.1]
  by_cases e : v (11 * p + 4) ≤ k
  · rw [if_pos (by rw [o3_le (by omega) (by omega)]; exact e), if_pos e]
  · rw [if_neg (by rw [o3_le (by omega) (by omega)]; exact e), if_neg e, if_pos ((o3_inb (by omega)).mpr hk), o3_clamp (by omega), (wh.2.2 k hk).1]
theorem toothB {h : aw_H} {v : St} {w p k : Nat} (wh : Whl h w v p) (ok : OkP v p) (hk : k < 3) : FX3_toothOf w (w + 3) (o3 k) h = some (if v (11 * p + 4) ≤ k then -1 else o3 (v (11 * p + 8 + k))) := by
  have o4 := ok.2.2.2.2.1
  unfold FX3_toothOf
  rw [if_neg (show ¬ o3 k < 0 by rw [n0, o3_lt (by omega) (by omega)]; omega), wh.2.1]
  by_cases e : v (11 * p + 4) ≤ k
  · rw [if_pos (by rw [o3_le (by omega) (by omega)]; exact e), if_pos e]
  · rw [if_neg (by rw [o3_le (by omega) (by omega)]; exact e), if_neg e, if_pos ((o3_inb (by omega)).mpr hk), o3_clamp (by omega), (wh.2.2 k hk).2]
theorem c_of {h : aw_H} (k : Rel h) (a1 a2 : Int32) : Sv (FX5_of a1 a2 h) (FX6_of a1 a2 h) := by
  obtain ⟨v, ok, w, md⟩ := k.1
  rcases part_g (h := h) (h' := h) a1 w.1 (md 66 (by omega)) ok.1 with ⟨f1, f2⟩ | ⟨p, b1, b2, b3, b4⟩
  · exact ⟨-2, by simp only [FX5_of, f1, Option.bind_some, aw_on_none], by simp only [FX6_of, f2, if_true]⟩
  have hp : p < 6 := by have := ok.1; omega
  subst b1
  obtain ⟨wh, -⟩ := w.2.2.2 p hp
  have okp := ok.2.2.2 p hp
  have o4 := okp.2.2.2.2.1
  rcases rng a2 0 22 0 22 0 22 rfl rfl rfl rfl (by omega) (by omega) with ⟨-, -, f3⟩ | ⟨x, c1, -, c3, -, -⟩
  · have g1 : FX5_within a2 0 3 = 0 := within_out f3 (lo := 0) (hi := 3) (by omega) (by omega) (by omega) (by omega)
    have g2 : FX5_within a2 10 12 = 0 := within_out f3 (lo := 10) (hi := 12) (by omega) (by omega) (by omega) (by omega)
    have g3 : FX5_within a2 20 22 = 0 := within_out f3 (lo := 20) (hi := 22) (by omega) (by omega) (by omega) (by omega)
    have g4 : FX6_isIn a2.toInt64 0 4 = 0 := isIn_out f3 (lo := 0) (hi := 4) (by omega) (by omega) (by omega) (by omega)
    have g5 : FX6_isIn a2.toInt64 10 12 = 0 := isIn_out f3 (lo := 10) (hi := 12) (by omega) (by omega) (by omega) (by omega)
    have g6 : FX6_isIn a2.toInt64 20 22 = 0 := isIn_out f3 (lo := 20) (hi := 22) (by omega) (by omega) (by omega) (by omega)
    have g7 : ¬ a2 = 4 := by
      intro e
      rw [e] at f3
      exact f3 (by decide)
    exact ⟨-2, by simp only [FX5_of, b3, Option.bind_some, aw_on_some, isW_of hp, if_true, g1, g2, g3, g7, if_false], by simp only [FX6_of, b4, if_false, g4, g5, g6, if_true]⟩
  subst c1
  have g1 : (FX5_within (o3 x) 0 3 = 0) ↔ ¬ (0 ≤ x ∧ x ≤ 3) := within_o3 (lo := 0) (hi := 3) (by omega) (by omega) (by omega)
  have g2 : (FX5_within (o3 x) 10 12 = 0) ↔ ¬ (10 ≤ x ∧ x ≤ 12) := within_o3 (lo := 10) (hi := 12) (by omega) (by omega) (by omega)
  have g3 : (FX5_within (o3 x) 20 22 = 0) ↔ ¬ (20 ≤ x ∧ x ≤ 22) := within_o3 (lo := 20) (hi := 22) (by omega) (by omega) (by omega)
  have g4 : (FX6_isIn (o3 x).toInt64 0 4 = 0) ↔ ¬ (0 ≤ x ∧ x ≤ 4) := isIn_o3 (lo := 0) (hi := 4) (by omega) (by omega) (by omega)
  have g5 : (FX6_isIn (o3 x).toInt64 10 12 = 0) ↔ ¬ (10 ≤ x ∧ x ≤ 12) := isIn_o3 (lo := 10) (hi := 12) (by omega) (by omega) (by omega)
  have g6 : (FX6_isIn (o3 x).toInt64 20 22 = 0) ↔ ¬ (20 ≤ x ∧ x ≤ 22) := isIn_o3 (lo := 20) (hi := 22) (by omega) (by omega) (by omega)
  have g7 : (o3 x = 4) ↔ x = 4 := o3_eq (b := 4) (by omega) (by omega)
  have g8 : ((20 : Int32) ≤ o3 x) ↔ 20 ≤ x := o3_le (a := 20) (by omega) (by omega)
  by_cases h1 : x ≤ 4
  · refine ⟨o3 (v (11 * p + x)), ?_, ?_⟩
    · by_cases h2 : x = 4
      · unfold FX5_of
        rw [b3]
        simp only [Option.bind_some, aw_on_some]
        rw [if_pos (isW_of hp), if_pos (g1.mpr (by omega)), if_pos (g7.mpr h2), wh.2.1, h2]
      · have : ¬ FX5_within (o3 x) 0 3 = 0 := fun q => (g1.mp q) (by omega)
        have ib : aw_inb (o3 x) 4 = true := (o3_inb (by omega)).mpr (by omega)
        simp only [FX5_of, b3, Option.bind_some, aw_on_some, isW_of hp, if_true, this, if_false, ib, o3_clamp (show x < 2147483648 by omega), wh.1 x (by omega)]
    · have : ¬ FX6_isIn (o3 x).toInt64 0 4 = 0 := fun q => (g4.mp q) (by omega)
      simp only [FX6_of, b4, if_false, this, at6 md hp (show x < 11 by omega), Option.bind_some]
  have k4 : FX6_at (o3 p) 4 h = some (o3 (v (11 * p + 4))) := at6 (k := 4) md hp (by omega)
  have em : o3 x - o3 x / 10 * 10 = o3 (x % 10) := o3_mod (b := 10) (by omega) (by omega)
  have el : ∀ j, j < 3 → (o3 (v (11 * p + 4)) ≤ o3 j ↔ v (11 * p + 4) ≤ j) := fun j hj => o3_le (by omega) (by omega)
  by_cases h2 : 10 ≤ x ∧ x ≤ 12
  · refine ⟨if v (11 * p + 4) ≤ x - 10 then -1 else o3 (v (11 * p + 5 + (x - 10))), ?_, ?_⟩
    · have q2 : ¬ FX5_within (o3 x) 10 12 = 0 := fun q => (g2.mp q) h2
      have q7 : ¬ o3 x = 4 := fun q => absurd (g7.mp q) (by omega)
      have es : o3 x - 10 = o3 (x - 10) := o3_sub (b := 10) (by omega) (by omega)
      simp only [FX5_of, b3, Option.bind_some, aw_on_some, isW_of hp, if_true, g1.mpr (by omega), q7, q2, if_false, es, toothA wh okp (show x - 10 < 3 by omega)]
    · have q5 : ¬ FX6_isIn (o3 x).toInt64 10 12 = 0 := fun q => (g5.mp q) h2
      have q8 : ¬ (20 : Int32) ≤ o3 x := fun q => absurd (g8.mp q) (by omega)
      have ex : x % 10 = x - 10 := by omega
      have ea : FX6_at (o3 p) (5 + o3 (x - 10)) h = some (o3 (v (11 * p + 5 + (x - 10)))) := by
        rw [n5, o3_add, at6 md hp (by omega), Nat.add_assoc]
      simp only [FX6_of, b4, if_false, g4.mpr (by omega), if_true, q5, k4, Option.bind_some, em, ex, q8, ea, el (x - 10) (by omega)]
      split <;> rfl
  by_cases h3 : 20 ≤ x ∧ x ≤ 22
  · refine ⟨if v (11 * p + 4) ≤ x - 20 then -1 else o3 (v (11 * p + 8 + (x - 20))), ?_, ?_⟩
    · have q3 : ¬ FX5_within (o3 x) 20 22 = 0 := fun q => (g3.mp q) h3
      have q7 : ¬ o3 x = 4 := fun q => absurd (g7.mp q) (by omega)
      have es : o3 x - 20 = o3 (x - 20) := o3_sub (b := 20) (by omega) (by omega)
      simp only [FX5_of, b3, Option.bind_some, aw_on_some, isW_of hp, if_true, g1.mpr (by omega), q7, g2.mpr h2, q3, if_false, es, toothB wh okp (show x - 20 < 3 by omega)]
    · have q6 : ¬ FX6_isIn (o3 x).toInt64 20 22 = 0 := fun q => (g6.mp q) h3
      have q8 : (20 : Int32) ≤ o3 x := g8.mpr h3.1
      have ex : x % 10 = x - 20 := by omega
      have ea : FX6_at (o3 p) (8 + o3 (x - 20)) h = some (o3 (v (11 * p + 8 + (x - 20)))) := by
        rw [n8, o3_add, at6 md hp (by omega), Nat.add_assoc]
      simp only [FX6_of, b4, if_false, g4.mpr (by omega), if_true, g5.mpr h2, q6, k4, Option.bind_some, em, ex, q8, ea, el (x - 20) (by omega)]
      split <;> rfl
  · have q7 : ¬ o3 x = 4 := fun q => absurd (g7.mp q) (by omega)
    exact ⟨-2, by simp only [FX5_of, b3, Option.bind_some, aw_on_some, isW_of hp, if_true, g1.mpr (by omega), g2.mpr h2, g3.mpr h3, q7, if_false], by simp only [FX6_of, b4, if_false, g4.mpr (by omega), g5.mpr h2, g6.mpr h3, if_true]⟩
theorem c_jam {n : Nat} {h : aw_H} (k : Rel h) (hn : 300 ≤ n) (a1 a2 : Int32) : Sv (FX5_jam n a1 a2 h) (FX6_jam n a1 a2 h) := by
  obtain ⟨v, ok, w, md⟩ := k.1
  rcases part_g (h := h) (h' := h) a1 w.1 (md 66 (by omega)) ok.1 with ⟨f1, f2⟩ | ⟨p, b1, b2, b3, b4⟩
  · exact ⟨-2, by simp only [FX5_jam, f1, Option.bind_some, aw_on_none], by simp only [FX6_jam, f2, if_true]⟩
  have hp : p < 6 := by have := ok.1; omega
  rcases rng a2 0 3 0 3 0 3 rfl rfl rfl rfl (by omega) (by omega) with ⟨f1, f2, -⟩ | ⟨x, c1, c2, c3, c4, c5⟩
  · exact ⟨-2, by simp only [FX5_jam, b3, f1, Option.bind_some, aw_on_some, isW_of hp, if_true], by simp only [FX6_jam, b4, f2, if_true, if_false]⟩
  subst b1 c1
  obtain ⟨wh, -⟩ := w.2.2.2 p hp
  have okp := ok.2.2.2 p hp
  have o4 := okp.2.2.2.2.1
  have j5 := jam5 (n := n) wh okp (by omega)
  have j6 := jam6 (n := n) md hp okp (by omega)
  have d1 : (1 : Int32) = 0 ↔ False := by decide
  have d2 : (2 : Int32) = 0 ↔ False := by decide
  have d3 : (3 : Int32) = 0 ↔ False := by decide
  have d4 : (2 : Int32) = 1 ↔ False := by decide
  have d5 : (3 : Int32) = 1 ↔ False := by decide
  have d6 : (3 : Int32) = 2 ↔ False := by decide
  have d7 : (0 : Int32) = 3 ↔ False := by decide
  have d8 : (1 : Int32) = 3 ↔ False := by decide
  have d9 : (2 : Int32) = 3 ↔ False := by decide
  have s0 : o3 0 = 0 := rfl
  have s1 : o3 1 = 1 := rfl
  have s2 : o3 2 = 2 := rfl
  have s3 : o3 3 = 3 := rfl
  rcases jamV_cases (v := v) (p := p) with ⟨hj, -⟩ | ⟨z, hz, hj, -⟩
  · have t1 : FX3_toothOf (3 + 4 * p) (3 + 4 * p + 2) (-1) h = some (-1) := by unfold FX3_toothOf; rw [if_pos (by decide)]
    have t2 : FX3_toothOf (3 + 4 * p) (3 + 4 * p + 3) (-1) h = some (-1) := by unfold FX3_toothOf; rw [if_pos (by decide)]
    refine ⟨if x = 0 ∨ x = 3 then -1 else 0, ?_, ?_⟩
    · simp only [FX5_jam, b3, Option.bind_some, aw_on_some, isW_of hp, if_true, c4, if_false, j5, hj, t1, t2]
      rcases (show x = 0 ∨ x = 1 ∨ x = 2 ∨ x = 3 by omega) with rfl | rfl | rfl | rfl <;> rfl
    · simp only [FX6_jam, b4, c5, if_false, j6, hj, Option.bind_some, if_true]
      rcases (show x = 0 ∨ x = 1 ∨ x = 2 ∨ x = 3 by omega) with rfl | rfl | rfl | rfl <;> rfl
  · have t1 := toothA wh okp (show z < 3 by omega)
    have t2 := toothB wh okp (show z < 3 by omega)
    have z1 : ¬ o3 z = -1 := o3_ne_neg1 (by omega)
    rw [if_neg (by omega)] at t1 t2
    have ea : FX6_at (o3 p) (5 + o3 z) h = some (o3 (v (11 * p + 5 + z))) := by
      rw [n5, o3_add, at6 md hp (by omega), Nat.add_assoc]
    have eb : FX6_at (o3 p) (8 + o3 z) h = some (o3 (v (11 * p + 8 + z))) := by
      rw [n8, o3_add, at6 md hp (by omega), Nat.add_assoc]
    refine ⟨if x = 0 then o3 z else if x = 1 then FX5_misfit (o3 (v (11 * p + 5 + z))) (o3 (v (11 * p + 8 + z))) else if x = 2 then 2 else FJ9_max_7cf53 (o3 (v (11 * p + 5 + z))) (o3 (v (11 * p + 8 + z))), ?_, ?_⟩
    · simp only [FX5_jam, b3, Option.bind_some, aw_on_some, isW_of hp, if_true, c4, if_false, j5, hj, t1, t2, z1]
      rcases (show x = 0 ∨ x = 1 ∨ x = 2 ∨ x = 3 by omega) with rfl | rfl | rfl | rfl <;> rfl
    · simp only [FX6_jam, b4, c5, if_false, j6, hj, Option.bind_some, z1, ea, eb]
      rcases (show x = 0 ∨ x = 1 ∨ x = 2 ∨ x = 3 by omega) with rfl | rfl | rfl | rfl <;> rfl
theorem line_g (a : Int32) : (FX5_within a 0 1 = 0 ∧ FX6_isLine a = 0) ∨ (∃ x : Nat, a = o3 x ∧ x ≤ 1 ∧ ¬ FX5_within a 0 1 = 0 ∧ ¬ FX6_isLine a = 0) := by
  rcases rng a 0 1 0 1 0 1 rfl rfl rfl rfl (by omega) (by omega) with ⟨f1, -, f3⟩ | ⟨x, c1, c2, c3, c4, c5⟩
  · refine Or.inl ⟨f1, ?_⟩
    unfold FX6_isLine
    rw [if_neg (fun e => by rw [e] at f3; exact f3 (by decide)), if_neg (fun e => by rw [e] at f3; exact f3 (by decide))]
  · refine Or.inr ⟨x, c1, c3, c4, ?_⟩
    subst c1
    rcases (show x = 0 ∨ x = 1 by omega) with rfl | rfl <;> decide
theorem spG_b {v : St} {p : Nat} (ok : OkP v p) : 0 < spG v p ∧ spG v p ≤ spB v p := gcd_bound (spB_b ok).2
theorem speed6 {n : Nat} {h : aw_H} {v : St} {p : Nat} {l : Int32} (md : Mod h v) (ok : Ok v) (hp : p < v 66) (hn : 300 ≤ n) (hl : ¬ FX6_isLine l = 0) : FX6_speed n (o3 p) l h = some (o6 (if l = 0 then spA v p / spG v p else spB v p / spG v p)) := by
  have hp6 : p < 6 := by have := ok.1; omega
  have okp := ok.2.2.2 p hp6
  have hA := spA_b okp ok.2.1.2
  have hB := spB_b okp
  unfold FX6_speed
  rw [if_neg (isPart6 (md 66 (by omega)) ok.1 hp), if_neg hl, above6 md hp6 okp ok.2.1.2 (by omega)]
  simp only [Option.bind_some, below6 md hp6 okp (show 10 ≤ n by omega), low6n (show 200 ≤ n by omega) (show spA v p < 4611686018427387904 by omega) hB.2 (show spB v p < 4611686018427387904 by omega)]
  rfl
theorem c_speed {n : Nat} {h : aw_H} (k : Rel h) (hn : 300 ≤ n) (a1 a2 : Int32) : Sv (FX5_speed a1 a2 h) (FX6_speed n a1 a2 h) := by
  obtain ⟨v, ok, w, md⟩ := k.1
  rcases part_g (h := h) (h' := h) a1 w.1 (md 66 (by omega)) ok.1 with ⟨f1, f2⟩ | ⟨p, b1, b2, b3, b4⟩
  · exact ⟨-9223372036854775808, by simp only [FX5_speed, f1, Option.bind_some, aw_on_none], by simp only [FX6_speed, f2, if_true]⟩
  have hp : p < 6 := by have := ok.1; omega
  rcases line_g a2 with ⟨f1, f2⟩ | ⟨x, c1, c2, c3, c4⟩
  · exact ⟨-9223372036854775808, by simp only [FX5_speed, b3, f1, Option.bind_some, aw_on_some, isW_of hp, if_true], by simp only [FX6_speed, b4, f2, if_true, if_false]⟩
  subst b1
  obtain ⟨s1, s2⟩ := (w.2.2.2 p hp).2 b2
  refine ⟨_, ?_, speed6 md ok b2 hn c4⟩
  simp only [FX5_speed, b3, Option.bind_some, aw_on_some, isW_of hp, if_true, c3, if_false, s1, s2]
  split <;> rfl
/-! count -/
theorem c_count {n : Nat} {h : aw_H} (k : Rel h) (hn : 300 ≤ n) (a1 : Int32) : Sv (FX5_count n a1 h) (FX6_count n a1 h) := by
  obtain ⟨z, hz1, hz2, hz3, -⟩ := k.2.2.2
  obtain ⟨v, ok, w, md⟩ := k.1
  obtain ⟨w1, w2, w3, w4⟩ := w
  have h66 := ok.1
  have e66 := md 66 (by omega)
  have pp : ∃ q q', FX4_pairsOfAll n h = some q ∧ FX6_pairsOfAll n h = some q' ∧ q = q' := by
    refine lp_two (fun s s' => s = s' ∧ ∃ i, s.2 = o3 i ∧ i ≤ v 66) (fun s => 10 - s.2.toNatClampNeg) ?_ n n _ _ ⟨rfl, 0, rfl, by omega⟩ (by show 10 - _ < n; omega) (by show 10 - _ < n; omega)
    rintro ⟨a, i'⟩ s' ⟨rfl, i, hi, hl⟩
    have hi : i' = o3 i := hi
    subst hi
    by_cases e : i = v 66
    · refine Or.inr ⟨a, a, ?_, ?_, rfl⟩
      · unfold BX4_pairsOfAll_4
        rw [if_pos (show h.1 1 1 ≤ o3 i by rw [w1, e]; exact Int32.le_refl _)]
      · unfold BX6_pairsOfAll_4
        rw [if_pos (show h.1 72 66 ≤ o3 i by rw [e66, e]; exact Int32.le_refl _)]
    · refine Or.inl ⟨(a + o3 (v (11 * i + 4)), o3 (i + 1)), (a + o3 (v (11 * i + 4)), o3 (i + 1)), ?_, ?_, ⟨rfl, i + 1, rfl, by omega⟩, ?_⟩
      · unfold BX4_pairsOfAll_4
        rw [if_neg (show ¬ h.1 1 1 ≤ o3 i by rw [w1, o3_le (by omega) (by omega)]; omega), if_pos ((o3_inb (by omega)).mpr (by omega))]
        simp only [o3_clamp (show i < 2147483648 by omega)]
        rw [(w4 i (by omega)).1.2.1, n1, o3_add]
      · unfold BX6_pairsOfAll_4
        rw [if_neg (show ¬ h.1 72 66 ≤ o3 i by rw [e66, o3_le (by omega) (by omega)]; omega)]
        have k4 : FX6_at (o3 i) 4 h = some (o3 (v (11 * i + 4))) := at6 (k := 4) md (by omega) (by omega)
        simp only [k4, Option.bind_some]
        rw [n1, o3_add]
      · show 10 - (o3 (i + 1)).toNatClampNeg < 10 - (o3 i).toNatClampNeg
        rw [o3_clamp (by omega), o3_clamp (by omega)]; omega
  have jj : ∃ q q', FX4_jams n h = some q ∧ FX6_jammed n h = some q' ∧ q = q' := by
    refine lp_two (fun s s' => s = s' ∧ ∃ i, s.2 = o3 i ∧ i ≤ v 66) (fun s => 10 - s.2.toNatClampNeg) ?_ n n _ _ ⟨rfl, 0, rfl, by omega⟩ (by show 10 - _ < n; omega) (by show 10 - _ < n; omega)
    rintro ⟨a, i'⟩ s' ⟨rfl, i, hi, hl⟩
    have hi : i' = o3 i := hi
    subst hi
    by_cases e : i = v 66
    · refine Or.inr ⟨a, a, ?_, ?_, rfl⟩
      · unfold BX4_jams_4
        rw [if_pos (show h.1 1 1 ≤ o3 i by rw [w1, e]; exact Int32.le_refl _)]
      · unfold BX6_jammed_4
        rw [if_pos (show h.1 72 66 ≤ o3 i by rw [e66, e]; exact Int32.le_refl _)]
    · have okp := ok.2.2.2 i (by omega)
      have j5 := jam5 (n := n) (w4 i (by omega)).1 okp (by omega)
      have j6 := jam6 (n := n) md (show i < 6 by omega) okp (by omega)
      refine Or.inl ⟨(if jamV v i = -1 then a else a + 1, o3 (i + 1)), (if jamV v i = -1 then a else a + 1, o3 (i + 1)), ?_, ?_, ⟨rfl, i + 1, rfl, by omega⟩, ?_⟩
      · unfold BX4_jams_4
        rw [if_neg (show ¬ h.1 1 1 ≤ o3 i by rw [w1, o3_le (by omega) (by omega)]; omega), if_pos ((o3_inb (by omega)).mpr (by omega))]
        simp only [o3_clamp (show i < 2147483648 by omega), j5, Option.bind_some]
        rw [← o3_add]
        split <;> rfl
      · unfold BX6_jammed_4
        rw [if_neg (show ¬ h.1 72 66 ≤ o3 i by rw [e66, o3_le (by omega) (by omega)]; omega)]
        simp only [j6, Option.bind_some]
        rw [← o3_add, show a + 0 = a from Int32.add_zero a]
        split <;> rfl
      · show 10 - (o3 (i + 1)).toNatClampNeg < 10 - (o3 i).toNatClampNeg
        rw [o3_clamp (by omega), o3_clamp (by omega)]; omega
  obtain ⟨q1, q1', p1, p2, rfl⟩ := pp
  obtain ⟨q2, q2', p3, p4, rfl⟩ := jj
  refine ⟨if a1 = 0 then o3 (v 66) else if a1 = 1 then o3 (v 68) else if a1 = 2 then o3 z else if a1 = 3 then q1 else if a1 = 4 then q2 else if a1 = 5 then o3 (v 67) else -2, ?_, ?_⟩
  · simp only [FX5_count, w1, w2, w3, hz2, p1, p3, Option.bind_some]
    repeat' split
    all_goals rfl
  · simp only [FX6_count, e66, md 67 (show 67 < 69 by omega), md 68 (show 68 < 69 by omega), hz3, p2, p4, Option.bind_some]
    repeat' split
    all_goals rfl
/-! off -/
theorem c_off {n : Nat} {h : aw_H} (k : Rel h) (hn : 300 ≤ n) (a1 a2 a3 a4 : Int32) : Sv (FX5_off n a1 a2 a3 a4 h) (FX6_off n a1 a2 a3 a4 h) := by
  obtain ⟨v, ok, w, md⟩ := k.1
  rcases part_g (h := h) (h' := h) a1 w.1 (md 66 (by omega)) ok.1 with ⟨f1, f2⟩ | ⟨p, b1, b2, b3, b4⟩
  · exact ⟨-9223372036854775808, by simp only [FX5_off, f1, Option.bind_some, aw_on_none], by simp only [FX6_off, f2, if_true]⟩
  have hp : p < 6 := by have := ok.1; omega
  rcases rng (a2 / 10000) 1 9999 1 9999 1 9999 rfl rfl rfl rfl (by omega) (by omega) with ⟨f1, f2, -⟩ | ⟨u, c1, c2, c3, c4, c5⟩
  · exact ⟨-9223372036854775808, by simp only [FX5_off, b3, f1, Option.bind_some, aw_on_some, isW_of hp, if_true], by simp only [FX6_off, b4, f2, if_true, if_false]⟩
  rcases rng (a2 - a2 / 10000 * 10000) 1 9999 1 9999 1 9999 rfl rfl rfl rfl (by omega) (by omega) with ⟨f1, f2, -⟩ | ⟨r, d1, d2, d3, d4, d5⟩
  · exact ⟨-9223372036854775808, by simp only [FX5_off, b3, c4, f1, Option.bind_some, aw_on_some, isW_of hp, if_true, if_false], by simp only [FX6_off, b4, c5, f2, if_true, if_false]⟩
  rcases rng a3 0 9999 0 9999 0 9999 rfl rfl rfl rfl (by omega) (by omega) with ⟨f1, f2, -⟩ | ⟨m, g1, g2, g3, g4, g5⟩
  · exact ⟨-9223372036854775808, by simp only [FX5_off, b3, c4, d4, f1, Option.bind_some, aw_on_some, isW_of hp, if_true, if_false], by simp only [FX6_off, b4, c5, d5, f2, if_true, if_false]⟩
  rcases line_g a4 with ⟨f1, f2⟩ | ⟨x, l1, l2, l3, l4⟩
  · exact ⟨-9223372036854775808, by simp only [FX5_off, b3, c4, d4, g4, f1, Option.bind_some, aw_on_some, isW_of hp, if_true, if_false], by simp only [FX6_off, b4, c5, d5, g5, f2, if_true, if_false]⟩
  subst b1
  have okp := ok.2.2.2 p hp
  have hA := spA_b okp ok.2.1.2
  have hB := spB_b okp
  have hG := spG_b okp
  obtain ⟨s1, s2⟩ := (w.2.2.2 p hp).2 b2
  obtain ⟨α, hα⟩ : ∃ α, α = spA v p / spG v p := ⟨_, rfl⟩
  obtain ⟨β, hβ⟩ : ∃ β, β = spB v p / spG v p := ⟨_, rfl⟩
  have bα : α ≤ 7992000000 := by rw [hα]; exact Nat.le_trans (Nat.div_le_self _ _) hA
  have bβ : β ≤ 8000000 := by rw [hβ]; exact Nat.le_trans (Nat.div_le_self _ _) hB.1
  have bβ0 : 0 < β := by rw [hβ]; exact Nat.div_pos hG.2 hG.1
  have bu : α * r ≤ 7992000000 * 9999 := Nat.mul_le_mul bα d3
  have bv : β * u ≤ 8000000 * 9999 := Nat.mul_le_mul bβ c3
  have bw : β * r ≤ 8000000 * 9999 := Nat.mul_le_mul bβ d3
  have bw0 : 0 < β * r := Nat.mul_pos bβ0 (by omega)
  obtain ⟨D, hD⟩ : ∃ D : Int64, D = o6 α * o6 r - o6 β * o6 u := ⟨_, rfl⟩
  have tD : D.toInt = (α * r : Nat) - (β * u : Nat) := by
    rw [hD, o6_mul, o6_mul, Int64.toInt_sub, o6_toInt (by omega), o6_toInt (by omega), b64 (by omega) (by omega)]
  have tm : (o6 m).toInt = m := o6_toInt (by omega)
  have hprod : -4611686018427387904 < D.toInt * (m : Int) ∧ D.toInt * (m : Int) < 4611686018427387904 := by
    have e1 : D.toInt ≤ 79912008000000 := by omega
    have e2 : -79992000000 ≤ D.toInt := by omega
    generalize D.toInt = z at e1 e2
    have m1 : (m : Int) ≤ 9999 := by omega
    have m2 : (0 : Int) ≤ m := by omega
    have u1 : z * (m : Int) ≤ 79912008000000 * (m : Int) := Int.mul_le_mul_of_nonneg_right e1 m2
    have u2 : -79992000000 * (m : Int) ≤ z * (m : Int) := Int.mul_le_mul_of_nonneg_right e2 m2
    omega
  have tE : (D * o6 m).toInt = D.toInt * (m : Int) := by
    rw [Int64.toInt_mul, tm, b64 (by omega) (by omega)]
  have L5 := low5 (n := n) (a := D * o6 m) (y := β * r) (l := a4) (by omega) (by rw [tE]; exact hprod.1) (by rw [tE]; exact hprod.2) bw0 (by omega)
  have L6 := low6 (n := n) (a := D * o6 m) (y := β * r) (l := a4) (by omega) (by rw [tE]; exact hprod.1) (by rw [tE]; exact hprod.2) bw0 (by omega)
  have A6 := above6 (n := n) md hp okp ok.2.1.2 (by omega)
  have B6 := below6 (n := n) md hp okp (by omega)
  have l0 := low6n (n := n) (l := 0) (show 200 ≤ n by omega) (show spA v p < 4611686018427387904 by omega) hB.2 (show spB v p < 4611686018427387904 by omega)
  have l1' := low6n (n := n) (l := 1) (show 200 ≤ n by omega) (show spA v p < 4611686018427387904 by omega) hB.2 (show spB v p < 4611686018427387904 by omega)
  rw [if_pos rfl, show spA v p / (spA v p).gcd (spB v p) = α from hα.symm] at l0
  rw [if_neg one_ne, show spB v p / (spA v p).gcd (spB v p) = β from hβ.symm] at l1'
  obtain ⟨R, hR⟩ : ∃ R, FX5_lowest n (D * o6 m) (o6 (β * r)) a4 = some R := ⟨_, L5⟩
  have hR6 : FX6_lowest n (D * o6 m) (o6 (β * r)) a4 = some R := (L6.trans L5.symm).trans hR
  refine ⟨R, ?_, ?_⟩
  rotate_left
  · simp only [FX6_off, b4, c5, d5, g5, l4, if_false, A6, B6, l0, l1', Option.bind_some]
    rw [d1, c1, g1, o3_i2l (by omega), o3_i2l (by omega), o3_i2l (by omega), Int64.mul_comm (o6 u) (o6 β), ← hD, o6_mul, hR6]
    rfl
  · simp only [FX5_off, b3, c4, d4, g4, l3, Option.bind_some, aw_on_some, isW_of hp, if_true, if_false]
    rw [s1, s2, d1, c1, g1, o3_i2l (by omega), o3_i2l (by omega), o3_i2l (by omega), ← hα, ← hβ, ← hD, o6_mul, hR]
    rfl

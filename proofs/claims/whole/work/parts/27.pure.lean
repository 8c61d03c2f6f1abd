/-! THE PURE PART. Int32 and Int64 out of natural numbers; loops -/
def o3 (k : Nat) : Int32 := Int32.ofNat k
def o6 (k : Nat) : Int64 := Int64.ofNat k
theorem o3_toInt {k : Nat} (h : k < 2147483648) : (o3 k).toInt = k := Int32.toInt_ofNat_of_lt h
theorem o6_toInt {k : Nat} (h : k < 9223372036854775808) : (o6 k).toInt = k := Int64.toInt_ofNat_of_lt h
theorem o3_clamp {k : Nat} (h : k < 2147483648) : (o3 k).toNatClampNeg = k := Int32.toNatClampNeg_ofNat_of_lt h
theorem o3_lt {a b : Nat} (ha : a < 2147483648) (hb : b < 2147483648) : (o3 a < o3 b) ↔ a < b := by
  rw [Int32.lt_iff_toInt_lt, o3_toInt ha, o3_toInt hb]; omega
theorem o3_le {a b : Nat} (ha : a < 2147483648) (hb : b < 2147483648) : (o3 a ≤ o3 b) ↔ a ≤ b := by
  rw [Int32.le_iff_toInt_le, o3_toInt ha, o3_toInt hb]; omega
theorem o3_eq {a b : Nat} (ha : a < 2147483648) (hb : b < 2147483648) : (o3 a = o3 b) ↔ a = b := by
  rw [← Int32.toInt_inj, o3_toInt ha, o3_toInt hb]; omega
theorem o6_lt {a b : Nat} (ha : a < 9223372036854775808) (hb : b < 9223372036854775808) : (o6 a < o6 b) ↔ a < b := by
  rw [Int64.lt_iff_toInt_lt, o6_toInt ha, o6_toInt hb]; omega
theorem o6_le {a b : Nat} (ha : a < 9223372036854775808) (hb : b < 9223372036854775808) : (o6 a ≤ o6 b) ↔ a ≤ b := by
  rw [Int64.le_iff_toInt_le, o6_toInt ha, o6_toInt hb]; omega
theorem o6_eq {a b : Nat} (ha : a < 9223372036854775808) (hb : b < 9223372036854775808) : (o6 a = o6 b) ↔ a = b := by
  rw [← Int64.toInt_inj, o6_toInt ha, o6_toInt hb]; omega
theorem o3_add (a b : Nat) : o3 a + o3 b = o3 (a + b) := (Int32.ofNat_add a b).symm
theorem o3_mul (a b : Nat) : o3 a * o3 b = o3 (a * b) := (Int32.ofNat_mul a b).symm
theorem o6_add (a b : Nat) : o6 a + o6 b = o6 (a + b) := (Int64.ofNat_add a b).symm
theorem o6_mul (a b : Nat) : o6 a * o6 b = o6 (a * b) := (Int64.ofNat_mul a b).symm
theorem b32 {z : Int} (h1 : -2147483648 ≤ z) (h2 : z < 2147483648) : z.bmod (2 ^ 32) = z := by
  apply Int.bmod_eq_of_le_mul_two <;> omega
theorem b64 {z : Int} (h1 : -9223372036854775808 ≤ z) (h2 : z < 9223372036854775808) : z.bmod (2 ^ 64) = z := by
  apply Int.bmod_eq_of_le_mul_two <;> omega
theorem o3_sub {a b : Nat} (h : b ≤ a) (ha : a < 2147483648) : o3 a - o3 b = o3 (a - b) := by
  rw [← Int32.toInt_inj, Int32.toInt_sub, o3_toInt ha, o3_toInt (by omega), o3_toInt (by omega), b32 (by omega) (by omega)]; omega
theorem o6_sub {a b : Nat} (h : b ≤ a) (ha : a < 9223372036854775808) : o6 a - o6 b = o6 (a - b) := by
  rw [← Int64.toInt_inj, Int64.toInt_sub, o6_toInt ha, o6_toInt (by omega), o6_toInt (by omega), b64 (by omega) (by omega)]; omega
theorem o6_div {a b : Nat} (ha : a < 9223372036854775808) (hb : b < 9223372036854775808) : o6 a / o6 b = o6 (a / b) := by
  have hd : a / b ≤ a := Nat.div_le_self a b
  rw [← Int64.toInt_inj, Int64.toInt_div, o6_toInt ha, o6_toInt hb, o6_toInt (by omega), Int.tdiv_eq_ediv_of_nonneg (by omega)]
  show ((a / b : Nat) : Int).bmod (2 ^ 64) = ((a / b : Nat) : Int)
  generalize a / b = q at hd ⊢
  rw [b64 (by omega) (by omega)]
theorem o3_div {a b : Nat} (ha : a < 2147483648) (hb : b < 2147483648) : o3 a / o3 b = o3 (a / b) := by
  have hd : a / b ≤ a := Nat.div_le_self a b
  rw [← Int32.toInt_inj, Int32.toInt_div, o3_toInt ha, o3_toInt hb, o3_toInt (by omega), Int.tdiv_eq_ediv_of_nonneg (by omega)]
  show ((a / b : Nat) : Int).bmod (2 ^ 32) = ((a / b : Nat) : Int)
  generalize a / b = q at hd ⊢
  rw [b32 (by omega) (by omega)]
theorem o6_mod {a b : Nat} (ha : a < 9223372036854775808) (hb : b < 9223372036854775808) : o6 a - o6 a / o6 b * o6 b = o6 (a % b) := by
  rw [o6_div ha hb, o6_mul, o6_sub (Nat.div_mul_le_self a b) ha]
  congr 1
  have := Nat.div_add_mod a b
  rw [Nat.mul_comm] at this
  omega
theorem o3_mod {a b : Nat} (ha : a < 2147483648) (hb : b < 2147483648) : o3 a - o3 a / o3 b * o3 b = o3 (a % b) := by
  rw [o3_div ha hb, o3_mul, o3_sub (Nat.div_mul_le_self a b) ha]
  congr 1
  have := Nat.div_add_mod a b
  rw [Nat.mul_comm] at this
  omega
theorem o3_i2l {a : Nat} (ha : a < 2147483648) : (o3 a).toInt64 = o6 a := by
  rw [← Int64.toInt_inj, Int32.toInt_toInt64, o3_toInt ha, o6_toInt (by omega)]
theorem o6_l2i {a : Nat} (ha : a < 2147483648) : (o6 a).toInt32 = o3 a := by
  rw [← o3_i2l ha]; simp
theorem o3_of {x : Int32} (h : 0 ≤ x.toInt) : ∃ k : Nat, x = o3 k ∧ (k : Int) = x.toInt ∧ k < 2147483648 := by
  have h2 := x.toInt_lt
  refine ⟨x.toInt.toNat, ?_, by omega, by omega⟩
  rw [← Int32.toInt_inj, o3_toInt (by omega)]; omega
theorem o3_inb {a n : Nat} (ha : a < 2147483648) : (aw_inb (o3 a) n = true) ↔ a < n := by
  have h0 : ¬ o3 a < 0 := by
    rw [show (0 : Int32) = o3 0 from rfl, o3_lt ha (by omega)]; omega
  simp only [aw_inb, h0, o3_clamp ha]
  simp
theorem o3_ne_neg1 {a : Nat} (ha : a < 2147483648) : ¬ o3 a = (-1 : Int32) := by
  rw [← Int32.toInt_inj, o3_toInt ha]
  show ¬ (a : Int) = -1
  omega
/-! loops -/
theorem lp_wp {S R : Type} {B : S → Option (S ⊕ R)} {P : R → Prop} (I : S → Prop) (μ : S → Nat) (hb : ∀ s, I s → (∃ s', B s = some (.inl s') ∧ I s' ∧ μ s' < μ s) ∨ (∃ q, B s = some (.inr q) ∧ P q)) : ∀ (n : Nat) (s : S), I s → μ s < n → ∃ q, aw_loop B n s = some q ∧ P q
  | 0, s, _, hn => absurd hn (Nat.not_lt_zero _)
  | n + 1, s, hI, hn => by
    rcases hb s hI with ⟨s', h1, h2, h3⟩ | ⟨q, h1, h2⟩
    · obtain ⟨q, h4, h5⟩ := lp_wp I μ hb n s' h2 (by omega)
      exact ⟨q, by rw [aw_loop, h1]; exact h4, h5⟩
    · exact ⟨q, by rw [aw_loop, h1], h2⟩
theorem lp_some {S R : Type} {B : S → Option (S ⊕ R)} {q : R} (st : Nat → S) (N : Nat) (hs : ∀ k, k < N → B (st k) = some (.inl (st (k + 1)))) (he : B (st N) = some (.inr q)) : ∀ (n k : Nat), k ≤ N → N - k < n → aw_loop B n (st k) = some q
  | 0, k, _, hn => absurd hn (Nat.not_lt_zero _)
  | n + 1, k, hk, hn => by
    by_cases h : k = N
    · subst h
      rw [aw_loop, he]
    · rw [aw_loop, hs k (by omega)]
      exact lp_some st N hs he n (k + 1) (by omega) (by omega)
/-! guards -/
theorem within_iff {a l u : Int32} : (FX5_within a l u = 0) ↔ ¬ (l ≤ a ∧ a ≤ u) := by
  unfold FX5_within
  simp only [Int32.lt_iff_toInt_lt, Int32.le_iff_toInt_le]
  split
  · simp; omega
  · split
    · simp; omega
    · simp; omega
theorem isIn_iff {a l u : Int64} : (FX6_isIn a l u = 0) ↔ ¬ (l ≤ a ∧ a ≤ u) := by
  unfold FX6_isIn
  simp only [lg_cmp_lt, lg_cmp_gt, Int64.lt_iff_toInt_lt, Int64.le_iff_toInt_le]
  split
  · simp; omega
  · split
    · simp; omega
    · simp; omega
/-- one guard, in both tongues -/
theorem rng (a l u : Int32) (L U : Int64) (lo hi : Nat) (hl : l = o3 lo) (hu : u = o3 hi) (hL : L = o6 lo) (hU : U = o6 hi) (hh : hi < 2147483648) (hlh : lo ≤ hi) :
    (FX5_within a l u = 0 ∧ FX6_isIn a.toInt64 L U = 0 ∧ ¬ (lo ≤ a.toInt ∧ a.toInt ≤ hi)) ∨ (∃ x : Nat, a = o3 x ∧ lo ≤ x ∧ x ≤ hi ∧ ¬ FX5_within a l u = 0 ∧ ¬ FX6_isIn a.toInt64 L U = 0) := by
  subst hl hu hL hU
  rw [within_iff, isIn_iff]
  simp only [Int32.le_iff_toInt_le, Int64.le_iff_toInt_le, Int32.toInt_toInt64, o3_toInt (show lo < 2147483648 by omega), o3_toInt hh, o6_toInt (show lo < 9223372036854775808 by omega), o6_toInt (show hi < 9223372036854775808 by omega)]
  by_cases h : (lo : Int) ≤ a.toInt ∧ a.toInt ≤ hi
  · obtain ⟨x, h1, h2, h3⟩ := o3_of (x := a) (by omega)
    exact Or.inr ⟨x, h1, by omega, by omega, fun q => q h, fun q => q h⟩
  · exact Or.inl ⟨h, h, h⟩
/-! Euclid -/
theorem euc_step {x y k : Nat} (hyx : y ≤ x) (hy : 0 < y) (hp : x * y < 2 ^ (k + 1)) : y * (x % y) < 2 ^ k := by
  have h1 : x % y < y := Nat.mod_lt _ hy
  have h2 : x % y + y ≤ x := by
    have h3 := Nat.div_add_mod x y
    have h4 : 1 ≤ x / y := (Nat.one_le_div_iff hy).mpr hyx
    have h5 : y * 1 ≤ y * (x / y) := Nat.mul_le_mul_left y h4
    omega
  have h6 : 2 * (x % y) ≤ x := by omega
  have h7 : y * (2 * (x % y)) ≤ y * x := Nat.mul_le_mul_left y h6
  rw [Nat.pow_succ] at hp
  rw [Nat.mul_comm x y] at hp
  have h8 : y * (2 * (x % y)) = 2 * (y * (x % y)) := by rw [← Nat.mul_assoc, Nat.mul_comm y 2, Nat.mul_assoc]
  omega
theorem euc_k {x y k : Nat} (hyx : y ≤ x) (hy : 0 < y) (hp : x * y < 2 ^ k) : ∃ j, k = j + 1 := by
  cases k with
  | zero =>
    have h1 : 1 * 1 ≤ x * y := Nat.mul_le_mul (by omega) hy
    simp at hp
    omega
  | succ j => exact ⟨j, rfl⟩
theorem gcd_step {x y : Nat} : Nat.gcd y (x % y) = Nat.gcd x y := by
  rw [Nat.gcd_comm x y, Nat.gcd_rec y x, Nat.gcd_comm]
theorem B5_eq (x y : Int64) (i : Int32) : BX5_greatestDivisor_9 (x, y, i) = (if o3 1000 ≤ i then some (Sum.inr x) else (if lg_cmp y (o6 0) = 0 then some (Sum.inr x) else (if y = o6 0 then none else some (Sum.inl (y, x - x / y * y, i + o3 1))))) := rfl
theorem B6_eq (x y : Int64) : BX6_divisor_12 (x, y) = (if lg_cmp y (o6 0) = 0 then some (Sum.inr x) else (if y = o6 0 then none else some (Sum.inl (y, x - x / y * y)))) := rfl
theorem gd5_run : ∀ (k n x y i : Nat), y ≤ x → x < 9223372036854775808 → x * y < 2 ^ k → i + k < 1000 → k < n → aw_loop BX5_greatestDivisor_9 n (o6 x, o6 y, o3 i) = some (o6 (Nat.gcd x y)) := by
  intro k
  induction k with
  | zero =>
    intro n x y i hyx hx hp hi hn
    obtain ⟨n, rfl⟩ : ∃ j, n = j + 1 := ⟨n - 1, by omega⟩
    by_cases hy : y = 0
    · subst hy
      rw [aw_loop, show BX5_greatestDivisor_9 (o6 x, o6 0, o3 i) = some (Sum.inr (o6 x)) by
        rw [B5_eq, if_neg (show ¬ o3 1000 ≤ o3 i by rw [o3_le (by omega) (by omega)]; omega), if_pos ((lg_cmp_eq _ _).mpr rfl)]]
      simp
    · obtain ⟨j, hj⟩ := euc_k hyx (by omega) hp
      omega
  | succ k ih =>
    intro n x y i hyx hx hp hi hn
    obtain ⟨n, rfl⟩ : ∃ j, n = j + 1 := ⟨n - 1, by omega⟩
    by_cases hy : y = 0
    · subst hy
      rw [aw_loop, show BX5_greatestDivisor_9 (o6 x, o6 0, o3 i) = some (Sum.inr (o6 x)) by
        rw [B5_eq, if_neg (show ¬ o3 1000 ≤ o3 i by rw [o3_le (by omega) (by omega)]; omega), if_pos ((lg_cmp_eq _ _).mpr rfl)]]
      simp
    · have hne : ¬ o6 y = o6 0 := by rw [o6_eq (by omega) (by omega)]; exact hy
      rw [aw_loop, show BX5_greatestDivisor_9 (o6 x, o6 y, o3 i) = some (Sum.inl (o6 y, o6 (x % y), o3 (i + 1))) by
        rw [B5_eq, if_neg (show ¬ o3 1000 ≤ o3 i by rw [o3_le (by omega) (by omega)]; omega), if_neg (fun h => hne ((lg_cmp_eq _ _).mp h)), if_neg hne, o6_mod (by omega) (by omega), o3_add]]
      have hm : x % y < y := Nat.mod_lt _ (by omega)
      show aw_loop BX5_greatestDivisor_9 n (o6 y, o6 (x % y), o3 (i + 1)) = _
      rw [ih n y (x % y) (i + 1) (by omega) (by omega) (euc_step hyx (by omega) hp) (by omega) (by omega), gcd_step]
theorem gd6_run : ∀ (k n x y : Nat), y ≤ x → x < 9223372036854775808 → x * y < 2 ^ k → k < n → aw_loop BX6_divisor_12 n (o6 x, o6 y) = some (o6 (Nat.gcd x y)) := by
  intro k
  induction k with
  | zero =>
    intro n x y hyx hx hp hn
    obtain ⟨n, rfl⟩ : ∃ j, n = j + 1 := ⟨n - 1, by omega⟩
    by_cases hy : y = 0
    · subst hy
      rw [aw_loop, show BX6_divisor_12 (o6 x, o6 0) = some (Sum.inr (o6 x)) by
        rw [B6_eq, if_pos ((lg_cmp_eq _ _).mpr rfl)]]
      simp
    · obtain ⟨j, hj⟩ := euc_k hyx (by omega) hp
      omega
  | succ k ih =>
    intro n x y hyx hx hp hn
    obtain ⟨n, rfl⟩ : ∃ j, n = j + 1 := ⟨n - 1, by omega⟩
    by_cases hy : y = 0
    · subst hy
      rw [aw_loop, show BX6_divisor_12 (o6 x, o6 0) = some (Sum.inr (o6 x)) by
        rw [B6_eq, if_pos ((lg_cmp_eq _ _).mpr rfl)]]
      simp
    · have hne : ¬ o6 y = o6 0 := by rw [o6_eq (by omega) (by omega)]; exact hy
      rw [aw_loop, show BX6_divisor_12 (o6 x, o6 y) = some (Sum.inl (o6 y, o6 (x % y))) by
        rw [B6_eq, if_neg (fun h => hne ((lg_cmp_eq _ _).mp h)), if_neg hne, o6_mod (by omega) (by omega)]]
      have hm : x % y < y := Nat.mod_lt _ (by omega)
      show aw_loop BX6_divisor_12 n (o6 y, o6 (x % y)) = _
      rw [ih n y (x % y) (by omega) (by omega) (euc_step hyx (by omega) hp) (by omega), gcd_step]
theorem pow_lt {x y : Nat} (hx : x < 4611686018427387904) (hy : y < 4611686018427387904) : x * y < 2 ^ 124 :=
  Nat.lt_of_lt_of_le (Nat.mul_lt_mul'' hx hy) (by decide)
theorem gd5 {n x y : Nat} (hn : 200 ≤ n) (hx : x < 4611686018427387904) (hy : y < 4611686018427387904) : FX5_greatestDivisor n (o6 x) (o6 y) = some (o6 (Nat.gcd x y)) := by
  unfold FX5_greatestDivisor
  by_cases h : y ≤ x
  · exact gd5_run 124 n x y 0 h (by omega) (pow_lt hx hy) (by omega) (by omega)
  · obtain ⟨n, rfl⟩ : ∃ j, n = j + 1 := ⟨n - 1, by omega⟩
    have hne : ¬ o6 y = o6 0 := by rw [o6_eq (by omega) (by omega)]; omega
    rw [aw_loop, show BX5_greatestDivisor_9 (o6 x, o6 y, 0) = some (Sum.inl (o6 y, o6 (x % y), o3 1)) by
      rw [show (0 : Int32) = o3 0 from rfl, B5_eq, if_neg (show ¬ o3 1000 ≤ o3 0 by decide), if_neg (fun h => hne ((lg_cmp_eq _ _).mp h)), if_neg hne, o6_mod (by omega) (by omega)]
      rfl]
    show aw_loop BX5_greatestDivisor_9 n (o6 y, o6 (x % y), o3 1) = _
    have hm : x % y < y := Nat.mod_lt _ (by omega)
    rw [gd5_run 124 n y (x % y) 1 (by omega) (by omega) (pow_lt hy (by omega)) (by omega) (by omega), gcd_step]
theorem gd6 {n x y : Nat} (hn : 200 ≤ n) (hx : x < 4611686018427387904) (hy : y < 4611686018427387904) : aw_loop BX6_divisor_12 n (o6 x, o6 y) = some (o6 (Nat.gcd x y)) := by
  by_cases h : y ≤ x
  · exact gd6_run 124 n x y h (by omega) (pow_lt hx hy) (by omega)
  · obtain ⟨n, rfl⟩ : ∃ j, n = j + 1 := ⟨n - 1, by omega⟩
    have hne : ¬ o6 y = o6 0 := by rw [o6_eq (by omega) (by omega)]; omega
    rw [aw_loop, show BX6_divisor_12 (o6 x, o6 y) = some (Sum.inl (o6 y, o6 (x % y))) by
      rw [B6_eq, if_neg (fun h => hne ((lg_cmp_eq _ _).mp h)), if_neg hne, o6_mod (by omega) (by omega)]]
    show aw_loop BX6_divisor_12 n (o6 y, o6 (x % y)) = _
    have hm : x % y < y := Nat.mod_lt _ (by omega)
    rw [gd6_run 124 n y (x % y) (by omega) (by omega) (pow_lt hy (by omega)) (by omega), gcd_step]

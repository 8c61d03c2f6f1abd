/-! the state as natural numbers; teeth, jams, speeds -/
theorem n0 : (0 : Int32) = o3 0 := rfl
theorem n1 : (1 : Int32) = o3 1 := rfl
theorem n2 : (2 : Int32) = o3 2 := rfl
theorem n3 : (3 : Int32) = o3 3 := rfl
theorem n4 : (4 : Int32) = o3 4 := rfl
theorem n5 : (5 : Int32) = o3 5 := rfl
theorem n6 : (6 : Int32) = o3 6 := rfl
theorem n8 : (8 : Int32) = o3 8 := rfl
theorem n9 : (9 : Int32) = o3 9 := rfl
theorem n10 : (10 : Int32) = o3 10 := rfl
theorem n11 : (11 : Int32) = o3 11 := rfl
theorem n12 : (12 : Int32) = o3 12 := rfl
theorem n20 : (20 : Int32) = o3 20 := rfl
theorem n22 : (22 : Int32) = o3 22 := rfl
theorem n40 : (40 : Int32) = o3 40 := rfl
theorem n60 : (60 : Int32) = o3 60 := rfl
theorem n100 : (100 : Int32) = o3 100 := rfl
theorem n200 : (200 : Int32) = o3 200 := rfl
theorem n300 : (300 : Int32) = o3 300 := rfl
theorem n512 : (512 : Int32) = o3 512 := rfl
theorem n999 : (999 : Int32) = o3 999 := rfl
theorem n1023 : (1023 : Int32) = o3 1023 := rfl
theorem n1024 : (1024 : Int32) = o3 1024 := rfl
theorem m0 : (0 : Int64) = o6 0 := rfl
theorem m1 : (1 : Int64) = o6 1 := rfl
theorem abs_o6 {z : Int64} (h1 : -4611686018427387904 < z.toInt) (h2 : z.toInt < 4611686018427387904) : FJ9_abs_067f4 z = o6 z.toInt.natAbs := by
  unfold FJ9_abs_067f4
  split
  · rename_i h
    rw [Int64.lt_iff_toInt_lt, show (0 : Int64).toInt = 0 from rfl] at h
    rw [← Int64.toInt_inj, o6_toInt (by omega)]
    omega
  · rename_i h
    rw [Int64.lt_iff_toInt_lt, show (0 : Int64).toInt = 0 from rfl] at h
    rw [← Int64.toInt_inj, o6_toInt (by omega), Int64.toInt_neg, b64 (by omega) (by omega)]
    omega
theorem abs_nat {a : Nat} (h : a < 4611686018427387904) : FJ9_abs_067f4 (o6 a) = o6 a := by
  rw [abs_o6 (by rw [o6_toInt (by omega)]; omega) (by rw [o6_toInt (by omega)]; omega), o6_toInt (by omega)]; rfl
theorem cut_o6 {a : Int64} {g : Nat} (h1 : 0 < g) (h2 : g < 9223372036854775808) : FX5_cut a (o6 g) = some (a / o6 g) := by
  have hne : ¬ o6 g = o6 0 := by rw [o6_eq h2 (by omega)]; omega
  unfold FX5_cut
  rw [m0, if_neg (fun h => hne ((lg_cmp_eq _ _).mp h)), if_neg hne]
theorem gcd_bound {a y : Nat} (hy : 0 < y) : 0 < Nat.gcd a y ∧ Nat.gcd a y ≤ y := ⟨Nat.gcd_pos_of_pos_right a hy, Nat.le_of_dvd hy (Nat.gcd_dvd_right a y)⟩
theorem low5 {n : Nat} {a : Int64} {y : Nat} {l : Int32} (hn : 200 ≤ n) (h1 : -4611686018427387904 < a.toInt) (h2 : a.toInt < 4611686018427387904) (hy : 0 < y) (hy2 : y < 4611686018427387904) : FX5_lowest n a (o6 y) l = some (if l = 0 then a / o6 (Nat.gcd a.toInt.natAbs y) else o6 y / o6 (Nat.gcd a.toInt.natAbs y)) := by
  have hg := gcd_bound (a := a.toInt.natAbs) hy
  unfold FX5_lowest
  rw [abs_o6 h1 h2, gd5 hn (by omega) hy2]
  simp only [Option.bind_some, cut_o6 (a := a) hg.1 (by omega), cut_o6 (a := o6 y) hg.1 (by omega)]
  split <;> rfl
theorem low6 {n : Nat} {a : Int64} {y : Nat} {l : Int32} (hn : 200 ≤ n) (h1 : -4611686018427387904 < a.toInt) (h2 : a.toInt < 4611686018427387904) (hy : 0 < y) (hy2 : y < 4611686018427387904) : FX6_lowest n a (o6 y) l = some (if l = 0 then a / o6 (Nat.gcd a.toInt.natAbs y) else o6 y / o6 (Nat.gcd a.toInt.natAbs y)) := by
  have hg := gcd_bound (a := a.toInt.natAbs) hy
  have hne : ¬ o6 (Nat.gcd a.toInt.natAbs y) = o6 0 := by rw [o6_eq (by omega) (by omega)]; omega
  unfold FX6_lowest FX6_divisor
  rw [abs_o6 h1 h2, abs_nat hy2, gd6 hn (by omega) hy2]
  simp only [Option.bind_some]
  rw [if_neg (show ¬ o6 (Nat.gcd a.toInt.natAbs y) = 0 from hne), if_neg (show ¬ o6 (Nat.gcd a.toInt.natAbs y) = 0 from hne)]
  split <;> rfl
theorem low5n {n a y : Nat} {l : Int32} (hn : 200 ≤ n) (ha : a < 4611686018427387904) (hy : 0 < y) (hy2 : y < 4611686018427387904) : FX5_lowest n (o6 a) (o6 y) l = some (o6 (if l = 0 then a / Nat.gcd a y else y / Nat.gcd a y)) := by
  have hg := gcd_bound (a := a) hy
  have e : (o6 a).toInt = a := o6_toInt (by omega)
  rw [low5 hn (by omega) (by omega) hy hy2, e, Int.natAbs_natCast, o6_div (by omega) (by omega), o6_div (by omega) (by omega)]
  split <;> rfl
theorem low6n {n a y : Nat} {l : Int32} (hn : 200 ≤ n) (ha : a < 4611686018427387904) (hy : 0 < y) (hy2 : y < 4611686018427387904) : FX6_lowest n (o6 a) (o6 y) l = some (o6 (if l = 0 then a / Nat.gcd a y else y / Nat.gcd a y)) := by
  have hg := gcd_bound (a := a) hy
  have e : (o6 a).toInt = a := o6_toInt (by omega)
  rw [low6 hn (by omega) (by omega) hy hy2, e, Int.natAbs_natCast, o6_div (by omega) (by omega), o6_div (by omega) (by omega)]
  split <;> rfl
/-! the state: v k is the k-th number of a row of 69, as the model lays them -/
abbrev St : Type := Nat → Nat
def misN (a b : Nat) : Nat := if a + b ≤ 300 then (if 6 * b < a then 2 else (if b ≤ 6 * a then 0 else 2)) else 1
theorem mis5 {a b : Nat} (ha : a < 1000) (hb : b < 1000) : FX5_misfit (o3 a) (o3 b) = o3 (misN a b) := by
  unfold FX5_misfit misN
  simp only [n300, n6, o3_add, o3_mul, o3_le (show a + b < 2147483648 by omega) (show 300 < 2147483648 by omega), o3_lt (show 6 * b < 2147483648 by omega) (show a < 2147483648 by omega), o3_le (show b < 2147483648 by omega) (show 6 * a < 2147483648 by omega)]
  split
  · split
    · rfl
    · split <;> rfl
  · rfl
theorem misN_lt {a b : Nat} : misN a b ≤ 2 := by
  unfold misN
  split
  · split
    · omega
    · split <;> omega
  · omega
def fitB (v : St) (p k : Nat) : Bool := misN (v (11 * p + 5 + k)) (v (11 * p + 8 + k)) == 0
def prA (v : St) (p : Nat) : Nat → Nat
  | 0 => 1
  | k + 1 => prA v p k * v (11 * p + 5 + k)
def prB (v : St) (p : Nat) : Nat → Nat
  | 0 => 1
  | k + 1 => prB v p k * v (11 * p + 8 + k)
def jamN (f : Nat → Bool) (P : Nat) : Nat → Int32
  | 0 => -1
  | d + 1 => bif f (P - (d + 1)) then jamN f P d else o3 (P - (d + 1))
def jamV (v : St) (p : Nat) : Int32 := jamN (fitB v p) (v (11 * p + 4)) (v (11 * p + 4))
theorem jam_loop {B : Int32 → Option (Int32 ⊕ Int32)} {P : Nat} {f : Nat → Bool} (h1 : ∀ k, k < P → B (o3 k) = bif f k then some (Sum.inl (o3 (k + 1))) else some (Sum.inr (o3 k))) (h2 : B (o3 P) = some (Sum.inr (-1))) : ∀ (d n : Nat), d < n → d ≤ P → aw_loop B n (o3 (P - d)) = some (jamN f P d) := by
  intro d
  induction d with
  | zero =>
    intro n hn hd
    obtain ⟨n, rfl⟩ : ∃ j, n = j + 1 := ⟨n - 1, by omega⟩
    rw [aw_loop, Nat.sub_zero, h2]; rfl
  | succ d ih =>
    intro n hn hd
    obtain ⟨n, rfl⟩ : ∃ j, n = j + 1 := ⟨n - 1, by omega⟩
    rw [aw_loop, h1 _ (by omega), jamN]
    cases hf : f (P - (d + 1)) with
    | false => rfl
    | true =>
      have := ih n (by omega) (by omega)
      rw [show P - d = P - (d + 1) + 1 by omega] at this
      exact this
theorem jamN_cases {f : Nat → Bool} {P : Nat} : ∀ d : Nat, d ≤ P → (jamN f P d = -1 ∧ ∀ k, P - d ≤ k → k < P → f k = true) ∨ (∃ k, k < P ∧ jamN f P d = o3 k ∧ f k = false)
  | 0, _ => Or.inl ⟨rfl, fun k h1 h2 => absurd h2 (by omega)⟩
  | d + 1, hd => by
    rw [jamN]
    cases hf : f (P - (d + 1)) with
    | false => exact Or.inr ⟨P - (d + 1), by omega, rfl, hf⟩
    | true =>
      rcases jamN_cases (f := f) (P := P) d (by omega) with ⟨h1, h2⟩ | h
      · refine Or.inl ⟨h1, fun k h3 h4 => ?_⟩
        by_cases hk : k = P - (d + 1)
        · rw [hk]; exact hf
        · exact h2 k (by omega) h4
      · exact Or.inr h
theorem jamV_cases {v : St} {p : Nat} : (jamV v p = -1 ∧ ∀ k, k < v (11 * p + 4) → fitB v p k = true) ∨ (∃ k, k < v (11 * p + 4) ∧ jamV v p = o3 k ∧ fitB v p k = false) := by
  rcases jamN_cases (f := fitB v p) (P := v (11 * p + 4)) _ (Nat.le_refl _) with ⟨h1, h2⟩ | h
  · exact Or.inl ⟨h1, fun k hk => h2 k (by omega) hk⟩
  · exact Or.inr h
/-- one part's numbers are such as calls can make them -/
def OkP (v : St) (p : Nat) : Prop := v (11 * p) ≤ 5 ∧ v (11 * p + 1) ≤ 9 ∧ v (11 * p + 2) ≤ 999 ∧ v (11 * p + 3) ≤ 1023 ∧ v (11 * p + 4) ≤ 3 ∧ ∀ k, k < v (11 * p + 4) → (8 ≤ v (11 * p + 5 + k) ∧ v (11 * p + 5 + k) ≤ 200) ∧ 8 ≤ v (11 * p + 8 + k) ∧ v (11 * p + 8 + k) ≤ 200
theorem prA_le {v : St} {p : Nat} (h : OkP v p) : ∀ k : Nat, k ≤ v (11 * p + 4) → prA v p k ≤ 200 ^ k
  | 0, _ => Nat.le_refl _
  | k + 1, hk => by
    have h1 := prA_le h k (by omega)
    have h2 := (h.2.2.2.2.2 k (by omega)).1.2
    rw [prA, Nat.pow_succ]
    exact Nat.mul_le_mul h1 h2
theorem prB_le {v : St} {p : Nat} (h : OkP v p) : ∀ k : Nat, k ≤ v (11 * p + 4) → prB v p k ≤ 200 ^ k ∧ 0 < prB v p k
  | 0, _ => ⟨Nat.le_refl _, Nat.zero_lt_one⟩
  | k + 1, hk => by
    have h1 := prB_le h k (by omega)
    have h2 := (h.2.2.2.2.2 k (by omega)).2
    rw [prB, Nat.pow_succ]
    exact ⟨Nat.mul_le_mul h1.1 h2.2, Nat.mul_pos h1.2 (by omega)⟩
theorem pow3 {k : Nat} (h : k ≤ 3) : 200 ^ k ≤ 8000000 := by
  rcases (show k = 0 ∨ k = 1 ∨ k = 2 ∨ k = 3 by omega) with rfl | rfl | rfl | rfl <;> decide
theorem prA_b {v : St} {p k : Nat} (h : OkP v p) (hk : k ≤ v (11 * p + 4)) : prA v p k ≤ 8000000 := Nat.le_trans (prA_le h k hk) (pow3 (Nat.le_trans hk h.2.2.2.2.1))
theorem prB_b {v : St} {p k : Nat} (h : OkP v p) (hk : k ≤ v (11 * p + 4)) : prB v p k ≤ 8000000 ∧ 0 < prB v p k := ⟨Nat.le_trans (prB_le h k hk).1 (pow3 (Nat.le_trans hk h.2.2.2.2.1)), (prB_le h k hk).2⟩
def spC (v : St) (p : Nat) : Nat := if jamV v p = -1 then v 67 else 0
def spA (v : St) (p : Nat) : Nat := spC v p * prA v p (v (11 * p + 4))
def spB (v : St) (p : Nat) : Nat := prB v p (v (11 * p + 4))
def spG (v : St) (p : Nat) : Nat := Nat.gcd (spA v p) (spB v p)
theorem spC_le {v : St} {p : Nat} (hs : v 67 ≤ 999) : spC v p ≤ 999 := by
  unfold spC; split <;> omega
theorem spA_b {v : St} {p : Nat} (h : OkP v p) (hs : v 67 ≤ 999) : spA v p ≤ 7992000000 := by
  have h1 := Nat.mul_le_mul (spC_le (p := p) hs) (prA_b h (Nat.le_refl _))
  exact h1
theorem spB_b {v : St} {p : Nat} (h : OkP v p) : spB v p ≤ 8000000 ∧ 0 < spB v p := prB_b h (Nat.le_refl _)
/-! the model's cells -/
def Mod (h : aw_H) (v : St) : Prop := ∀ k : Nat, k < 69 → h.1 72 k = o3 (v k)
theorem at6 {h : aw_H} {v : St} {p k : Nat} (hM : Mod h v) (hp : p < 6) (hk : k < 11) : FX6_at (o3 p) (o3 k) h = some (o3 (v (11 * p + k))) := by
  unfold FX6_at
  rw [n11, o3_mul, o3_add, if_pos ((o3_inb (by omega)).mpr (by omega)), o3_clamp (by omega), hM _ (by omega)]
theorem lays6 {h : aw_H} {p k : Nat} {x : Int32} (hp : p < 6) (hk : k < 11) : FX6_lays (o3 p) (o3 k) x h = some (aw_sI h 72 (11 * p + k) x) := by
  unfold FX6_lays
  rw [n11, o3_mul, o3_add, if_pos ((o3_inb (by omega)).mpr (by omega)), o3_clamp (by omega)]
theorem jam6 {n : Nat} {h : aw_H} {v : St} {p : Nat} (hM : Mod h v) (hp : p < 6) (ok : OkP v p) (hn : 10 ≤ n) : FX6_jamOf n (o3 p) h = some (jamV v p) := by
  obtain ⟨-, -, -, -, o4, o5⟩ := ok
  have hl := jam_loop (B := BX6_jamOf_2 (o3 p) h) (P := v (11 * p + 4)) (f := fitB v p) (fun k hk => by
    have hk3 := o5 k hk
    unfold BX6_jamOf_2
    rw [n4, n5, n8, n1, n0, o3_add, o3_add, at6 hM hp (by omega), at6 hM hp (by omega), at6 hM hp (by omega)]
    simp only [Option.bind_some, Nat.add_assoc]
    rw [if_neg (by rw [o3_le (by omega) (by omega)]; omega), show FX6_why = FX5_misfit from rfl, ← Nat.add_assoc, ← Nat.add_assoc, mis5 (by omega) (by omega), fitB]
    have hb := misN_lt (a := v (11 * p + 5 + k)) (b := v (11 * p + 8 + k))
    simp only [o3_eq (show misN (v (11 * p + 5 + k)) (v (11 * p + 8 + k)) < 2147483648 by omega) (show 0 < 2147483648 by omega)]
    by_cases hz : misN (v (11 * p + 5 + k)) (v (11 * p + 8 + k)) = 0
    · rw [if_pos hz, hz, o3_add]; rfl
    · rw [if_neg hz, beq_eq_false_iff_ne.mpr hz]; rfl) (by
    unfold BX6_jamOf_2
    rw [n4, at6 hM hp (by omega)]
    simp only [Option.bind_some]
    rw [if_pos (by rw [o3_le (by omega) (by omega)]; omega)]) (v (11 * p + 4)) n (by omega) (Nat.le_refl _)
  rw [Nat.sub_self] at hl
  exact hl
theorem prod_loop {B : Int64 × Int32 → Option ((Int64 × Int32) ⊕ Int64)} {P c : Nat} {pr : Nat → Nat} {x : Nat → Nat} (hP : ∀ k, pr (k + 1) = pr k * x k) (h1 : ∀ (k : Nat) (a : Int64), k < P → B (a, o3 k) = some (Sum.inl (a * o6 (x k), o3 (k + 1)))) (h2 : ∀ a : Int64, B (a, o3 P) = some (Sum.inr a)) : ∀ (d n : Nat), d < n → d ≤ P → aw_loop B n (o6 (c * pr (P - d)), o3 (P - d)) = some (o6 (c * pr P)) := by
  intro d
  induction d with
  | zero =>
    intro n hn hd
    obtain ⟨n, rfl⟩ : ∃ j, n = j + 1 := ⟨n - 1, by omega⟩
    rw [aw_loop, Nat.sub_zero, h2]
  | succ d ih =>
    intro n hn hd
    obtain ⟨n, rfl⟩ : ∃ j, n = j + 1 := ⟨n - 1, by omega⟩
    rw [aw_loop, h1 _ _ (by omega)]
    have := ih n (by omega) (by omega)
    rw [show P - d = P - (d + 1) + 1 by omega, hP, ← Nat.mul_assoc, ← o6_mul] at this
    exact this
theorem above6 {n : Nat} {h : aw_H} {v : St} {p : Nat} (hM : Mod h v) (hp : p < 6) (ok : OkP v p) (hs : v 67 ≤ 999) (hn : 10 ≤ n) : FX6_speedAbove n (o3 p) h = some (o6 (spA v p)) := by
  have ok' := ok
  obtain ⟨-, -, -, -, o4, o5⟩ := ok'
  unfold FX6_speedAbove
  rw [jam6 hM hp ok hn]
  simp only [Option.bind_some]
  have hb1 : ∀ (k : Nat) (a : Int64), k < v (11 * p + 4) → BX6_speedAbove_25 (o3 p) h (a, o3 k) = some (Sum.inl (a * o6 (v (11 * p + 5 + k)), o3 (k + 1))) := fun k a hk => by
    have hk3 := o5 k hk
    unfold BX6_speedAbove_25
    rw [n4, n5, n1, o3_add, at6 hM hp (by omega), at6 hM hp (by omega)]
    simp only [Option.bind_some]
    rw [if_neg (by rw [o3_le (by omega) (by omega)]; omega), o3_add, ← Nat.add_assoc, o3_i2l (by omega)]
  have hb2 : ∀ a : Int64, BX6_speedAbove_25 (o3 p) h (a, o3 (v (11 * p + 4))) = some (Sum.inr a) := fun a => by
    unfold BX6_speedAbove_25
    rw [n4, at6 hM hp (by omega)]
    simp only [Option.bind_some]
    rw [if_pos (by rw [o3_le (by omega) (by omega)]; omega)]
  have hl := fun c => prod_loop (c := c) (pr := prA v p) (x := fun k => v (11 * p + 5 + k)) (fun k => rfl) hb1 hb2 (v (11 * p + 4)) n (by omega) (Nat.le_refl _)
  simp only [Nat.sub_self] at hl
  unfold spA spC
  by_cases hj : jamV v p = -1
  · rw [if_pos hj, if_pos hj, hM 67 (by omega), o3_i2l (by omega)]
    have := hl (v 67)
    rw [show prA v p 0 = 1 from rfl, Nat.mul_one] at this
    exact this
  · rw [if_neg hj, if_neg hj]
    have := hl 0
    rw [Nat.zero_mul] at this
    exact this
theorem below6 {n : Nat} {h : aw_H} {v : St} {p : Nat} (hM : Mod h v) (hp : p < 6) (ok : OkP v p) (hn : 10 ≤ n) : FX6_speedBelow n (o3 p) h = some (o6 (spB v p)) := by
  obtain ⟨-, -, -, -, o4, o5⟩ := ok
  unfold FX6_speedBelow
  have hb1 : ∀ (k : Nat) (a : Int64), k < v (11 * p + 4) → BX6_speedBelow_5 (o3 p) h (a, o3 k) = some (Sum.inl (a * o6 (v (11 * p + 8 + k)), o3 (k + 1))) := fun k a hk => by
    have hk3 := o5 k hk
    unfold BX6_speedBelow_5
    rw [n4, n8, n1, o3_add, at6 hM hp (by omega), at6 hM hp (by omega)]
    simp only [Option.bind_some]
    rw [if_neg (by rw [o3_le (by omega) (by omega)]; omega), o3_add, ← Nat.add_assoc, o3_i2l (by omega)]
  have hb2 : ∀ a : Int64, BX6_speedBelow_5 (o3 p) h (a, o3 (v (11 * p + 4))) = some (Sum.inr a) := fun a => by
    unfold BX6_speedBelow_5
    rw [n4, at6 hM hp (by omega)]
    simp only [Option.bind_some]
    rw [if_pos (by rw [o3_le (by omega) (by omega)]; omega)]
  have hl := prod_loop (c := 1) (pr := prB v p) (x := fun k => v (11 * p + 8 + k)) (fun k => rfl) hb1 hb2 (v (11 * p + 4)) n (by omega) (Nat.le_refl _)
  rw [Nat.sub_self, Nat.one_mul, Nat.one_mul] at hl
  exact hl
/-! a wheel of the class -/
def Whl (h : aw_H) (w : Nat) (v : St) (p : Nat) : Prop := (∀ k : Nat, k < 4 → h.1 (w + 1) k = o3 (v (11 * p + k))) ∧ h.1 w 3 = o3 (v (11 * p + 4)) ∧ ∀ k : Nat, k < 3 → h.1 (w + 2) k = o3 (v (11 * p + 5 + k)) ∧ h.1 (w + 3) k = o3 (v (11 * p + 8 + k))
def Spd (h : aw_H) (w : Nat) (v : St) (p : Nat) : Prop := h.2 w 4 = o6 (spA v p / spG v p) ∧ h.2 w 5 = o6 (spB v p / spG v p)
theorem jam5 {n : Nat} {h : aw_H} {v : St} {w p : Nat} (hW : Whl h w v p) (ok : OkP v p) (hn : 10 ≤ n) : FX3_jammed n w h = some (jamV v p) := by
  obtain ⟨-, -, -, -, o4, o5⟩ := ok
  obtain ⟨w1, w2, w3⟩ := hW
  have hl := jam_loop (B := BX3_jammed_2 w h) (P := v (11 * p + 4)) (f := fitB v p) (fun k hk => by
    have hk3 := o5 k hk
    unfold BX3_jammed_2
    rw [if_neg (show ¬ h.1 w 3 ≤ o3 k by rw [w2, o3_le (by omega) (by omega)]; omega), if_pos ((o3_inb (by omega)).mpr (by omega)), if_pos ((o3_inb (by omega)).mpr (by omega)), o3_clamp (by omega), (w3 k (by omega)).1, (w3 k (by omega)).2, mis5 (by omega) (by omega), n1, n0, fitB]
    have hb := misN_lt (a := v (11 * p + 5 + k)) (b := v (11 * p + 8 + k))
    simp only [o3_eq (show misN (v (11 * p + 5 + k)) (v (11 * p + 8 + k)) < 2147483648 by omega) (show 0 < 2147483648 by omega)]
    by_cases hz : misN (v (11 * p + 5 + k)) (v (11 * p + 8 + k)) = 0
    · rw [if_pos hz, hz, o3_add]; rfl
    · rw [if_neg hz, beq_eq_false_iff_ne.mpr hz]; rfl) (by
    unfold BX3_jammed_2
    rw [if_pos (show h.1 w 3 ≤ o3 (v (11 * p + 4)) by rw [w2, o3_le (by omega) (by omega)]; omega)]) (v (11 * p + 4)) n (by omega) (Nat.le_refl _)
  rw [Nat.sub_self] at hl
  exact hl
/-- the two longs of a wheel, as tune leaves them -/
def tuned (h : aw_H) (w : Nat) (v : St) (p : Nat) : aw_H := aw_sL (aw_sL h w 4 (o6 (spA v p / spG v p))) w 5 (o6 (spB v p / spG v p))
theorem prod_loop2 {R : Type} {B : Int64 × Int64 × Int32 → Option ((Int64 × Int64 × Int32) ⊕ R)} {P c : Nat} {pa pb : Nat → Nat} {x y : Nat → Nat} {q : R} (hP : ∀ k, pa (k + 1) = pa k * x k) (hQ : ∀ k, pb (k + 1) = pb k * y k) (h1 : ∀ (k : Nat) (a b : Int64), k < P → B (a, b, o3 k) = some (Sum.inl (a * o6 (x k), b * o6 (y k), o3 (k + 1)))) (h2 : B (o6 (c * pa P), o6 (pb P), o3 P) = some (Sum.inr q)) : ∀ (d n : Nat), d < n → d ≤ P → aw_loop B n (o6 (c * pa (P - d)), o6 (pb (P - d)), o3 (P - d)) = some q := by
  intro d
  induction d with
  | zero =>
    intro n hn hd
    obtain ⟨n, rfl⟩ : ∃ j, n = j + 1 := ⟨n - 1, by omega⟩
    rw [aw_loop, Nat.sub_zero, h2]
  | succ d ih =>
    intro n hn hd
    obtain ⟨n, rfl⟩ : ∃ j, n = j + 1 := ⟨n - 1, by omega⟩
    rw [aw_loop, h1 _ _ _ (by omega)]
    have := ih n (by omega) (by omega)
    rw [show P - d = P - (d + 1) + 1 by omega, hP, hQ, ← Nat.mul_assoc, ← o6_mul (c * pa (P - (d + 1))) (x (P - (d + 1))), ← o6_mul (pb (P - (d + 1))) (y (P - (d + 1)))] at this
    exact this
theorem tune5 {n : Nat} {h : aw_H} {v : St} {w p : Nat} (hW : Whl h w v p) (ok : OkP v p) (hs : v 67 ≤ 999) (hn : 300 ≤ n) : FX3_tune n w (o3 (v 67)) h = some (tuned h w v p) := by
  have ok' := ok
  have hA := spA_b ok hs
  have hB := spB_b ok
  obtain ⟨-, -, -, -, o4, o5⟩ := ok'
  have hW' := hW
  obtain ⟨w1, w2, w3⟩ := hW'
  unfold FX3_tune
  rw [jam5 hW ok (by omega)]
  simp only [Option.bind_some]
  have hb1 : ∀ (k : Nat) (a b : Int64), k < v (11 * p + 4) → BX3_tune_21 n w h (a, b, o3 k) = some (Sum.inl (a * o6 (v (11 * p + 5 + k)), b * o6 (v (11 * p + 8 + k)), o3 (k + 1))) := fun k a b hk => by
    have hk3 := o5 k hk
    unfold BX3_tune_21
    rw [if_neg (show ¬ h.1 w 3 ≤ o3 k by rw [w2, o3_le (by omega) (by omega)]; omega), if_pos ((o3_inb (by omega)).mpr (by omega)), if_pos ((o3_inb (by omega)).mpr (by omega)), n1]
    simp only [o3_clamp (show k < 2147483648 by omega)]
    rw [(w3 k (by omega)).1, (w3 k (by omega)).2, o3_i2l (by omega), o3_i2l (by omega), o3_add]
  have hb2 : BX3_tune_21 n w h (o6 (spA v p), o6 (spB v p), o3 (v (11 * p + 4))) = some (Sum.inr (tuned h w v p)) := by
    unfold BX3_tune_21
    rw [if_pos (show h.1 w 3 ≤ o3 (v (11 * p + 4)) by rw [w2, o3_le (by omega) (by omega)]; omega)]
    simp only [low5n (show 200 ≤ n by omega) (show spA v p < 4611686018427387904 by omega) hB.2 (show spB v p < 4611686018427387904 by omega), Option.bind_some]
    rfl
  have hl := fun c (hc : c * prA v p (v (11 * p + 4)) = spA v p) => prod_loop2 (q := tuned h w v p) (c := c) (pa := prA v p) (pb := prB v p) (x := fun k => v (11 * p + 5 + k)) (y := fun k => v (11 * p + 8 + k)) (fun k => rfl) (fun k => rfl) hb1 (by rw [hc]; exact hb2) (v (11 * p + 4)) n (by omega) (Nat.le_refl _)
  simp only [Nat.sub_self] at hl
  by_cases hj : jamV v p = -1
  · rw [if_pos hj, o3_i2l (by omega)]
    have := hl (v 67) (by unfold spA spC; rw [if_pos hj])
    rw [show prA v p 0 = 1 from rfl, Nat.mul_one] at this
    exact this
  · rw [if_neg hj]
    have := hl 0 (by unfold spA spC; rw [if_neg hj])
    rw [Nat.zero_mul] at this
    exact this

/-! heights -/
def plainN (v : St) (p t : Nat) : Nat := v (11 * p + 3) + t * spA v p / spB v p
def driftN (v : St) (p t : Nat) : Nat := plainN v p t + v (11 * p + 1) * (t / 100)
def wayN (v : St) (p t : Nat) : Nat := if v (11 * p) = 1 then 2 * plainN v p t else if v (11 * p) = 2 then plainN v p t else if v (11 * p) = 3 then driftN v p t else if v (11 * p) = 4 then 2 * plainN v p t else if v (11 * p) = 5 then driftN v p t - driftN v p t % 64 else plainN v p t
theorem plainN_b {v : St} {p t : Nat} (ok : OkP v p) (hs : v 67 ≤ 999) (ht : t ≤ 200000) : plainN v p t ≤ 2000000000000000 ∧ driftN v p t ≤ 2000000000000000 := by
  have hA := spA_b ok hs
  have h1 : t * spA v p ≤ 200000 * 7992000000 := Nat.mul_le_mul ht hA
  have h2 := Nat.div_le_self (t * spA v p) (spB v p)
  have h3 := ok.2.2.2.1
  have h4 : v (11 * p + 1) * (t / 100) ≤ 9 * 2000 := Nat.mul_le_mul ok.2.1 (by omega)
  unfold driftN plainN
  omega
theorem quot_eq {v : St} {p t : Nat} (ok : OkP v p) : t * (spA v p / spG v p) / (spB v p / spG v p) = t * spA v p / spB v p := by
  have hG := spG_b ok
  obtain ⟨a, ha⟩ : spG v p ∣ spA v p := Nat.gcd_dvd_left _ _
  obtain ⟨b, hb⟩ : spG v p ∣ spB v p := Nat.gcd_dvd_right _ _
  have e1 : spA v p / spG v p = a := by
    rw [Nat.div_eq_iff_eq_mul_right hG.1 ⟨a, ha⟩]; exact ha
  have e2 : spB v p / spG v p = b := by
    rw [Nat.div_eq_iff_eq_mul_right hG.1 ⟨b, hb⟩]; exact hb
  rw [e1, e2]
  rw [show t * spA v p = spG v p * (t * a) by rw [ha, Nat.mul_left_comm]]
  conv => rhs; rw [hb]
  rw [Nat.mul_div_mul_left _ _ hG.1]
theorem way5 {h : aw_H} {v : St} {w p t : Nat} (wh : Whl h w v p) (sp : Spd h w v p) (ok : OkP v p) (hs : v 67 ≤ 999) (ht : t ≤ 200000) : FX3_wayAt w (o3 t) h = some (o6 (wayN v p t)) := by
  have hA := spA_b ok hs
  have hB := spB_b ok
  have hG := spG_b ok
  have hb := plainN_b ok hs ht
  have a1 : spA v p / spG v p ≤ 7992000000 := Nat.le_trans (Nat.div_le_self _ _) hA
  have b1 : spB v p / spG v p ≤ 8000000 := Nat.le_trans (Nat.div_le_self _ _) hB.1
  have b0 : 0 < spB v p / spG v p := Nat.div_pos hG.2 hG.1
  have ta : t * (spA v p / spG v p) ≤ 200000 * 7992000000 := Nat.mul_le_mul ht a1
  have e0 : h.1 (w + 1) 0 = o3 (v (11 * p)) := wh.1 0 (by omega)
  have e1 := wh.1 1 (by omega)
  have e3 := wh.1 3 (by omega)
  have k0 := ok.1
  have k1 := ok.2.1
  have k3 := ok.2.2.2.1
  have cu : FX5_cut ((o3 t).toInt64 * h.2 w 4) (h.2 w 5) = some (o6 (t * spA v p / spB v p)) := by
    rw [sp.1, sp.2, o3_i2l (by omega), o6_mul, cut_o6 b0 (by omega), o6_div (by omega) (by omega), quot_eq ok]
  have epl : (o3 (v (11 * p + 3))).toInt64 + o6 (t * spA v p / spB v p) = o6 (plainN v p t) := by
    rw [o3_i2l (by omega), o6_add]; rfl
  have h4 : v (11 * p + 1) * (t / 100) ≤ 9 * 2000 := Nat.mul_le_mul k1 (by omega)
  have edr : o6 (plainN v p t) + (o3 (v (11 * p + 1)) * (o3 t / 100)).toInt64 = o6 (driftN v p t) := by
    rw [n100, o3_div (by omega) (by omega), o3_mul, o3_i2l (by omega), o6_add]; rfl
  have em : o6 (driftN v p t) - o6 (driftN v p t) / 64 * 64 = o6 (driftN v p t % 64) := o6_mod (b := 64) (by omega) (by omega)
  unfold FX3_wayAt
  rw [cu]
  simp only [Option.bind_some, e0, e1, e3, epl, edr, em]
  rw [o6_sub (Nat.mod_le _ _) (by omega), show (2 : Int64) = o6 2 from rfl, o6_mul, n1, n2, n3, n4, n5]
  simp only [o3_eq (show v (11 * p) < 2147483648 by omega) (show 1 < 2147483648 by omega), o3_eq (show v (11 * p) < 2147483648 by omega) (show 2 < 2147483648 by omega), o3_eq (show v (11 * p) < 2147483648 by omega) (show 3 < 2147483648 by omega), o3_eq (show v (11 * p) < 2147483648 by omega) (show 4 < 2147483648 by omega), o3_eq (show v (11 * p) < 2147483648 by omega) (show 5 < 2147483648 by omega)]
  unfold wayN
  repeat' split
  all_goals rfl
theorem way6 {n : Nat} {h : aw_H} {v : St} {p t : Nat} (md : Mod h v) (hp : p < 6) (ok : OkP v p) (hs : v 67 ≤ 999) (ht : t ≤ 200000) (hn : 300 ≤ n) : FX6_wayOf n (o3 p) (o3 t) h = some (o6 (wayN v p t)) := by
  have hA := spA_b ok hs
  have hB := spB_b ok
  have hb := plainN_b ok hs ht
  have ta : t * spA v p ≤ 200000 * 7992000000 := Nat.mul_le_mul ht hA
  have k0 := ok.1
  have k1 := ok.2.1
  have k3 := ok.2.2.2.1
  have a0 : FX6_at (o3 p) 0 h = some (o3 (v (11 * p))) := at6 (k := 0) md hp (by omega)
  have a1 : FX6_at (o3 p) 1 h = some (o3 (v (11 * p + 1))) := at6 (k := 1) md hp (by omega)
  have a3 : FX6_at (o3 p) 3 h = some (o3 (v (11 * p + 3))) := at6 (k := 3) md hp (by omega)
  have hne : ¬ o6 (spB v p) = 0 := by rw [m0, o6_eq (by omega) (by omega)]; omega
  have cu : (o3 t).toInt64 * o6 (spA v p) / o6 (spB v p) = o6 (t * spA v p / spB v p) := by
    rw [o3_i2l (by omega), o6_mul, o6_div (by omega) (by omega)]
  have epl : (o3 (v (11 * p + 3))).toInt64 + o6 (t * spA v p / spB v p) = o6 (plainN v p t) := by
    rw [o3_i2l (by omega), o6_add]; rfl
  have h4 : v (11 * p + 1) * (t / 100) ≤ 9 * 2000 := Nat.mul_le_mul k1 (by omega)
  have edr : o6 (plainN v p t) + (o3 (v (11 * p + 1))).toInt64 * (o3 t / 100).toInt64 = o6 (driftN v p t) := by
    rw [n100, o3_div (by omega) (by omega), o3_i2l (by omega), o3_i2l (by omega), o6_mul, o6_add]; rfl
  have em : o6 (driftN v p t) - o6 (driftN v p t) / 64 * 64 = o6 (driftN v p t % 64) := o6_mod (b := 64) (by omega) (by omega)
  unfold FX6_wayOf
  rw [a3]
  simp only [Option.bind_some, above6 md hp ok hs (show 10 ≤ n by omega), below6 md hp ok (show 10 ≤ n by omega), if_neg hne, a1, a0, cu, epl, edr, em]
  rw [o6_sub (Nat.mod_le _ _) (by omega), show (2 : Int64) = o6 2 from rfl, o6_mul, n1, n2, n3, n4, n5]
  simp only [o3_eq (show v (11 * p) < 2147483648 by omega) (show 1 < 2147483648 by omega), o3_eq (show v (11 * p) < 2147483648 by omega) (show 2 < 2147483648 by omega), o3_eq (show v (11 * p) < 2147483648 by omega) (show 3 < 2147483648 by omega), o3_eq (show v (11 * p) < 2147483648 by omega) (show 4 < 2147483648 by omega), o3_eq (show v (11 * p) < 2147483648 by omega) (show 5 < 2147483648 by omega)]
  unfold wayN
  repeat' split
  all_goals rfl
theorem wayN_b {v : St} {p t : Nat} (ok : OkP v p) (hs : v 67 ≤ 999) (ht : t ≤ 200000) : wayN v p t ≤ 4000000000000000 := by
  have hb := plainN_b ok hs ht
  unfold wayN
  repeat' split
  all_goals omega
def spotN (v : St) (p t : Nat) : Nat := wayN v p t % 1024
theorem spot5 {h : aw_H} {v : St} {w p t : Nat} (wh : Whl h w v p) (sp : Spd h w v p) (ok : OkP v p) (hs : v 67 ≤ 999) (ht : t ≤ 200000) : FX3_spot w (o3 t) h = some (o3 (spotN v p t)) := by
  have hb := wayN_b ok hs ht
  have em : o6 (wayN v p t) - o6 (wayN v p t) / 1024 * 1024 = o6 (wayN v p t % 1024) := o6_mod (b := 1024) (by omega) (by omega)
  unfold FX3_spot
  rw [way5 wh sp ok hs ht]
  simp only [Option.bind_some]
  rw [em, o6_l2i (by omega)]; rfl
theorem place6 {n : Nat} {h : aw_H} {v : St} {p t : Nat} (md : Mod h v) (hp : p < 6) (ok : OkP v p) (hs : v 67 ≤ 999) (ht : t ≤ 200000) (hn : 300 ≤ n) : FX6_placeOf n (o3 p) (o3 t) h = some (o3 (spotN v p t)) := by
  have hb := wayN_b ok hs ht
  have em : o6 (wayN v p t) - o6 (wayN v p t) / 1024 * 1024 = o6 (wayN v p t % 1024) := o6_mod (b := 1024) (by omega) (by omega)
  unfold FX6_placeOf
  rw [way6 md hp ok hs ht hn]
  simp only [Option.bind_some]
  rw [em, o6_l2i (by omega)]; rfl
theorem clampEq {M N x : Int32} (h : N.toInt ≤ M.toInt) : FJ9_max_7cf53 N (FJ9_min_7cf53 M x) = (if x ≤ M then (if N ≤ x then x else N) else M) := by
  unfold FJ9_max_7cf53 FJ9_min_7cf53
  by_cases h1 : x < M
  · rw [if_pos h1, if_pos (show x ≤ M by rw [Int32.lt_iff_toInt_lt] at h1; rw [Int32.le_iff_toInt_le]; omega)]
    by_cases h2 : N < x
    · rw [if_pos h2, if_pos (show N ≤ x by rw [Int32.lt_iff_toInt_lt] at h2; rw [Int32.le_iff_toInt_le]; omega)]
    · rw [if_neg h2]
      split
      · rename_i h3
        rw [Int32.lt_iff_toInt_lt] at h2
        rw [Int32.le_iff_toInt_le] at h3
        exact Int32.toInt_inj.mp (by omega)
      · rfl
  · rw [if_neg h1]
    rw [Int32.lt_iff_toInt_lt] at h1
    by_cases h2 : x ≤ M
    · have e : x = M := by rw [Int32.le_iff_toInt_le] at h2; exact Int32.toInt_inj.mp (by omega)
      subst e
      rw [if_pos h2, if_pos (show N ≤ x by rw [Int32.le_iff_toInt_le]; exact h)]
      split
      · rfl
      · rename_i h3
        rw [Int32.lt_iff_toInt_lt] at h3
        exact Int32.toInt_inj.mp (by omega)
    · rw [if_neg h2]
      split
      · rfl
      · rename_i h3
        rw [Int32.lt_iff_toInt_lt] at h3
        exact Int32.toInt_inj.mp (by omega)
theorem most_le : ∀ f : Fin 10, (-((o3 f.1 + 1) * 6553)).toInt ≤ ((o3 f.1 + 1) * 6553 : Int32).toInt := by decide
def halfV (i : Nat) : Int32 := if i < 512 then o3 (i * (512 - i)) else -(o3 ((i - 512) * (1024 - i)))
def shapeV (v : St) (p i : Nat) : Int32 := if v (11 * p) = 2 then (if halfV i ≤ (o3 (v (11 * p + 1)) + 1) * 6553 then (if -((o3 (v (11 * p + 1)) + 1) * 6553) ≤ halfV i then halfV i else -((o3 (v (11 * p + 1)) + 1) * 6553)) else (o3 (v (11 * p + 1)) + 1) * 6553) else if v (11 * p) = 4 then halfV i / 2 else halfV i
theorem shape5 {h : aw_H} {v : St} {w p i : Nat} (wh : Whl h w v p) (ok : OkP v p) (hi : i < 1024) : FX3_shapeAt w (o3 i) h = shapeV v p i := by
  have e0 : h.1 (w + 1) 0 = o3 (v (11 * p)) := wh.1 0 (by omega)
  have e1 := wh.1 1 (by omega)
  have k0 := ok.1
  have hm := most_le ⟨v (11 * p + 1), by have := ok.2.1; omega⟩
  have em : o3 i - o3 i / 512 * 512 = o3 (i % 512) := o3_mod (b := 512) (by omega) (by omega)
  have es : (512 : Int32) - o3 (i % 512) = o3 (512 - i % 512) := o3_sub (a := 512) (by omega) (by omega)
  have q2 : o3 (v (11 * p)) = 2 ↔ v (11 * p) = 2 := o3_eq (b := 2) (by omega) (by omega)
  have q4 : o3 (v (11 * p)) = 4 ↔ v (11 * p) = 4 := o3_eq (b := 4) (by omega) (by omega)
  have qi : (512 : Int32) ≤ o3 i ↔ 512 ≤ i := o3_le (a := 512) (by omega) (by omega)
  unfold FX3_shapeAt
  simp only [em, es, o3_mul, e0, e1, q2, q4, qi, clampEq hm]
  by_cases h5 : 512 ≤ i
  · have eh : halfV i = -(o3 (i % 512 * (512 - i % 512))) := by
      unfold halfV
      rw [if_neg (by omega), show i % 512 = i - 512 by omega, show 512 - (i - 512) = 1024 - i by omega]
    simp only [if_pos h5, ← eh]
    rfl
  · have eh : halfV i = o3 (i % 512 * (512 - i % 512)) := by
      unfold halfV
      rw [if_pos (by omega), show i % 512 = i by omega]
    simp only [if_neg h5, ← eh]
    rfl
theorem shape6 {h : aw_H} {v : St} {p i : Nat} (md : Mod h v) (hp : p < 6) (ok : OkP v p) (hi : i < 1024) : FX6_shapeOf (o3 p) (o3 i) h = some (shapeV v p i) := by
  have k0 := ok.1
  have a0 : FX6_at (o3 p) 0 h = some (o3 (v (11 * p))) := at6 (k := 0) md hp (by omega)
  have a1 : FX6_at (o3 p) 1 h = some (o3 (v (11 * p + 1))) := at6 (k := 1) md hp (by omega)
  have q2 : o3 (v (11 * p)) = 2 ↔ v (11 * p) = 2 := o3_eq (b := 2) (by omega) (by omega)
  have q4 : o3 (v (11 * p)) = 4 ↔ v (11 * p) = 4 := o3_eq (b := 4) (by omega) (by omega)
  have qi : (512 : Int32) ≤ o3 i ↔ 512 ≤ i := o3_le (a := 512) (by omega) (by omega)
  unfold FX6_shapeOf
  simp only [a0, a1, Option.bind_some, q2, q4, qi]
  by_cases h5 : 512 ≤ i
  · have e1 : o3 i - 512 = o3 (i - 512) := o3_sub (b := 512) (by omega) (by omega)
    have e2 : (1024 : Int32) - o3 i = o3 (1024 - i) := o3_sub (a := 1024) (by omega) (by omega)
    have eh : halfV i = -(o3 ((i - 512) * (1024 - i))) := by
      unfold halfV
      rw [if_neg (by omega)]
    simp only [if_pos h5, e1, e2, o3_mul, ← eh]
    unfold shapeV
    repeat' split
    all_goals first | rfl | contradiction
  · have e2 : (512 : Int32) - o3 i = o3 (512 - i) := o3_sub (a := 512) (by omega) (by omega)
    have eh : halfV i = o3 (i * (512 - i)) := by
      unfold halfV
      rw [if_pos (by omega)]
    simp only [if_neg h5, e2, o3_mul, ← eh]
    unfold shapeV
    repeat' split
    all_goals first | rfl | contradiction
def hbV (v : St) (p t : Nat) : Int64 := (o3 (v (11 * p + 2))).toInt64 * (shapeV v p (spotN v p t)).toInt64
theorem spotN_lt {v : St} {p t : Nat} : spotN v p t < 1024 := Nat.mod_lt _ (by omega)
theorem swing5 {h : aw_H} {v : St} {w p t : Nat} (wh : Whl h w v p) (sp : Spd h w v p) (ok : OkP v p) (hs : v 67 ≤ 999) (ht : t ≤ 200000) : FX3_swing w (o3 t) h = some (hbV v p t) := by
  unfold FX3_swing
  rw [spot5 wh sp ok hs ht]
  simp only [Option.bind_some, shape5 wh ok spotN_lt]
  rw [wh.1 2 (by omega)]; rfl
theorem height6 {n : Nat} {h : aw_H} {v : St} {p t : Nat} (md : Mod h v) (hp : p < 6) (ok : OkP v p) (hs : v 67 ≤ 999) (ht : t ≤ 200000) (hn : 300 ≤ n) : FX6_heightBy n (o3 p) (o3 t) h = some (hbV v p t) := by
  have a2 : FX6_at (o3 p) 2 h = some (o3 (v (11 * p + 2))) := at6 (k := 2) md hp (by omega)
  unfold FX6_heightBy
  rw [a2]
  simp only [Option.bind_some, place6 md hp ok hs ht hn, shape6 md hp ok spotN_lt]
  rfl
def sumV (v : St) (t : Nat) : Nat → Int64
  | 0 => 0
  | k + 1 => sumV v t k + hbV v k t
def lvV (v : St) (t : Nat) : Int64 := sumV v t (v 66)
theorem level5 {n : Nat} {h : aw_H} {v : St} {t : Nat} (w : Wks h 1 3 v) (ok : Ok v) (ht : t ≤ 200000) (hn : 300 ≤ n) : FX4_level n (o3 t) h = some (lvV v t) := by
  have h66 := ok.1
  obtain ⟨w1, -, -, w4⟩ := w
  unfold FX4_level
  refine lp_some (fun i => (sumV v t i, o3 i)) (v 66) (fun i hi => ?_) ?_ n 0 (by omega) (by omega)
  · unfold BX4_level_5
    rw [if_neg (show ¬ h.1 1 1 ≤ o3 i by rw [w1, o3_le (by omega) (by omega)]; omega), if_pos ((o3_inb (by omega)).mpr (by omega))]
    simp only [o3_clamp (show i < 2147483648 by omega), swing5 (w4 i (by omega)).1 ((w4 i (by omega)).2 hi) (ok.2.2.2 i (by omega)) ok.2.1.2 ht, Option.bind_some]
    rw [← o3_add]; rfl
  · unfold BX4_level_5
    rw [if_pos (show h.1 1 1 ≤ o3 (v 66) by rw [w1]; exact Int32.le_refl _)]
    rfl
theorem sum6 {n : Nat} {h : aw_H} {v : St} {t : Nat} (md : Mod h v) (ok : Ok v) (ht : t ≤ 200000) (hn : 300 ≤ n) : FX6_sumAt n (o3 t) h = some (lvV v t) := by
  have h66 := ok.1
  have e66 := md 66 (by omega)
  unfold FX6_sumAt
  refine lp_some (fun i => (sumV v t i, o3 i)) (v 66) (fun i hi => ?_) ?_ n 0 (by omega) (by omega)
  · unfold BX6_sumAt_5
    rw [if_neg (show ¬ h.1 72 66 ≤ o3 i by rw [e66, o3_le (by omega) (by omega)]; omega)]
    simp only [height6 md (show i < 6 by omega) (ok.2.2.2 i (by omega)) ok.2.1.2 ht hn, Option.bind_some]
    rw [← o3_add]; rfl
  · unfold BX6_sumAt_5
    rw [if_pos (show h.1 72 66 ≤ o3 (v 66) by rw [e66]; exact Int32.le_refl _)]
    rfl
theorem tick_g (a : Int32) : (FX5_isTick a = 0 ∧ FX6_isTick a = 0) ∨ (∃ t : Nat, a = o3 t ∧ t ≤ 99999 ∧ ¬ FX5_isTick a = 0 ∧ ¬ FX6_isTick a = 0) := by
  rcases rng a 0 99999 0 99999 0 99999 rfl rfl rfl rfl (by omega) (by omega) with ⟨f1, f2, -⟩ | ⟨x, c1, -, c3, c4, c5⟩
  · exact Or.inl ⟨f1, f2⟩
  · exact Or.inr ⟨x, c1, c3, c4, c5⟩
theorem c_height {n : Nat} {h : aw_H} (k : Rel h) (hn : 300 ≤ n) : Sv (FX5_height n h) (FX6_height n h) := by
  obtain ⟨v, ok, w, md⟩ := k.1
  have h68 := ok.2.2.1
  refine ⟨lvV v (v 68), ?_, ?_⟩
  · unfold FX5_height
    rw [w.2.2.1, level5 w ok (by omega) hn]; rfl
  · unfold FX6_height
    rw [md 68 (by omega), sum6 md ok (by omega) hn]; rfl
theorem c_heightAt {n : Nat} {h : aw_H} (k : Rel h) (hn : 300 ≤ n) (a1 : Int32) : Sv (FX5_heightAt n a1 h) (FX6_heightAt n a1 h) := by
  obtain ⟨v, ok, w, md⟩ := k.1
  rcases tick_g a1 with ⟨f1, f2⟩ | ⟨t, c1, c2, c3, c4⟩
  · exact ⟨-9223372036854775808, by simp only [FX5_heightAt, f1, if_true], by simp only [FX6_heightAt, f2, if_true]⟩
  subst c1
  exact ⟨lvV v t, by simp only [FX5_heightAt, c3, if_false, level5 w ok (show t ≤ 200000 by omega) hn, Option.bind_some], by simp only [FX6_heightAt, c4, if_false, sum6 md ok (show t ≤ 200000 by omega) hn, Option.bind_some]⟩
theorem c_heightOf {n : Nat} {h : aw_H} (k : Rel h) (hn : 300 ≤ n) (a1 a2 : Int32) : Sv (FX5_heightOf a1 a2 h) (FX6_heightOf n a1 a2 h) := by
  obtain ⟨v, ok, w, md⟩ := k.1
  rcases part_g (h := h) (h' := h) a1 w.1 (md 66 (by omega)) ok.1 with ⟨f1, f2⟩ | ⟨p, b1, b2, b3, b4⟩
  · exact ⟨-9223372036854775808, by simp only [FX5_heightOf, f1, Option.bind_some, aw_on_none], by simp only [FX6_heightOf, f2, if_true]⟩
  have hp : p < 6 := by have := ok.1; omega
  rcases tick_g a2 with ⟨f1, f2⟩ | ⟨t, c1, c2, c3, c4⟩
  · exact ⟨-9223372036854775808, by simp only [FX5_heightOf, b3, f1, Option.bind_some, aw_on_some, isW_of hp, if_true], by simp only [FX6_heightOf, b4, f2, if_true, if_false]⟩
  subst b1 c1
  obtain ⟨wh, sp⟩ := w.2.2.2 p hp
  exact ⟨hbV v p t, by simp only [FX5_heightOf, b3, c3, Option.bind_some, aw_on_some, isW_of hp, if_true, if_false, swing5 wh (sp b2) (ok.2.2.2 p hp) ok.2.1.2 (show t ≤ 200000 by omega)], by simp only [FX6_heightOf, b4, c4, if_false, height6 md hp (ok.2.2.2 p hp) ok.2.1.2 (show t ≤ 200000 by omega) hn, Option.bind_some]⟩
theorem c_place {n : Nat} {h : aw_H} (k : Rel h) (hn : 300 ≤ n) (a1 a2 : Int32) : Sv (FX5_place a1 a2 h) (FX6_place n a1 a2 h) := by
  obtain ⟨v, ok, w, md⟩ := k.1
  rcases part_g (h := h) (h' := h) a1 w.1 (md 66 (by omega)) ok.1 with ⟨f1, f2⟩ | ⟨p, b1, b2, b3, b4⟩
  · exact ⟨-2, by simp only [FX5_place, f1, Option.bind_some, aw_on_none], by simp only [FX6_place, f2, if_true]⟩
  have hp : p < 6 := by have := ok.1; omega
  rcases tick_g a2 with ⟨f1, f2⟩ | ⟨t, c1, c2, c3, c4⟩
  · exact ⟨-2, by simp only [FX5_place, b3, f1, Option.bind_some, aw_on_some, isW_of hp, if_true], by simp only [FX6_place, b4, f2, if_true, if_false]⟩
  subst b1 c1
  obtain ⟨wh, sp⟩ := w.2.2.2 p hp
  exact ⟨o3 (spotN v p t), by simp only [FX5_place, b3, c3, Option.bind_some, aw_on_some, isW_of hp, if_true, if_false, spot5 wh (sp b2) (ok.2.2.2 p hp) ok.2.1.2 (show t ≤ 200000 by omega)], by simp only [FX6_place, b4, c4, if_false, place6 md hp (ok.2.2.2 p hp) ok.2.1.2 (show t ≤ 200000 by omega) hn, Option.bind_some]⟩

/-! alike -/
def eqS (v : St) (i j : Nat) : Bool := decide (spA v i / spG v i = spA v j / spG v j) && decide (spB v i / spG v i = spB v j / spG v j)
theorem eqS_comm {v : St} {i j : Nat} : eqS v i j = eqS v j i := by
  unfold eqS
  rw [Bool.eq_iff_iff]
  simp only [Bool.and_eq_true, decide_eq_true_eq]
  exact ⟨fun h => ⟨h.1.symm, h.2.symm⟩, fun h => ⟨h.1.symm, h.2.symm⟩⟩
def bitsF (f : Nat → Bool) : Nat → Int32
  | 0 => 0
  | i + 1 => bif f i then bitsF f i ||| ((1 : Int32) <<< (o3 i &&& 31)) else bitsF f i
theorem sp_b {v : St} {p : Nat} (ok : Ok v) (hp : p < 6) : spA v p / spG v p < 9223372036854775808 ∧ spB v p / spG v p < 9223372036854775808 := by
  have h1 := spA_b (ok.2.2.2 p hp) ok.2.1.2
  have h2 := spB_b (ok.2.2.2 p hp)
  have h3 := Nat.div_le_self (spA v p) (spG v p)
  have h4 := Nat.div_le_self (spB v p) (spG v p)
  omega
theorem fast5 {h : aw_H} {v : St} {i j w u : Nat} (ok : Ok v) (hi : i < 6) (hj : j < 6) (s1 : Spd h w v i) (s2 : Spd h u v j) : FX3_isAsFastAs w u h = bif eqS v i j then 1 else 0 := by
  have b1 := sp_b ok hi
  have b2 := sp_b ok hj
  unfold FX3_isAsFastAs eqS
  rw [s1.1, s1.2, s2.1, s2.2]
  by_cases e1 : spA v i / spG v i = spA v j / spG v j
  · rw [if_pos ((lg_cmp_eq _ _).mpr (by rw [e1]))]
    by_cases e2 : spB v i / spG v i = spB v j / spG v j
    · rw [if_pos ((lg_cmp_eq _ _).mpr (by rw [e2])), decide_eq_true e1, decide_eq_true e2]; rfl
    · rw [if_neg (fun q => e2 ((o6_eq b1.2 b2.2).mp ((lg_cmp_eq _ _).mp q))), decide_eq_true e1, decide_eq_false e2]; rfl
  · rw [if_neg (fun q => e1 ((o6_eq b1.1 b2.1).mp ((lg_cmp_eq _ _).mp q))), decide_eq_false e1]; rfl
theorem alike6 {n : Nat} {h : aw_H} {v : St} {i j : Nat} (md : Mod h v) (ok : Ok v) (hi : i < v 66) (hj : j < v 66) (hn : 300 ≤ n) : FX6_areAlike n (o3 i) (o3 j) h = some (bif eqS v i j then 1 else 0) := by
  have b1 := sp_b ok (show i < 6 by have := ok.1; omega)
  have b2 := sp_b ok (show j < 6 by have := ok.1; omega)
  have l0 : ¬ FX6_isLine 0 = 0 := by decide
  have l1 : ¬ FX6_isLine 1 = 0 := by decide
  unfold FX6_areAlike eqS
  rw [speed6 md ok hi hn l0, if_pos rfl]
  simp only [Option.bind_some, speed6 md ok hi hn l1, speed6 md ok hj hn l0, speed6 md ok hj hn l1, if_true, one_ne, if_false]
  by_cases e1 : spA v i / spG v i = spA v j / spG v j
  · rw [if_pos ((lg_cmp_eq _ _).mpr (by rw [e1]))]
    by_cases e2 : spB v i / spG v i = spB v j / spG v j
    · rw [if_pos ((lg_cmp_eq _ _).mpr (by rw [e2])), decide_eq_true e1, decide_eq_true e2]; rfl
    · rw [if_neg (fun q => e2 ((o6_eq b1.2 b2.2).mp ((lg_cmp_eq _ _).mp q))), decide_eq_true e1, decide_eq_false e2]; rfl
  · rw [if_neg (fun q => e1 ((o6_eq b1.1 b2.1).mp ((lg_cmp_eq _ _).mp q))), decide_eq_false e1]; rfl
theorem like5 {n : Nat} {h : aw_H} {v : St} {j : Nat} (w : Wks h 1 3 v) (ok : Ok v) (hj : j < v 66) (hn : 300 ≤ n) : FX4_likeOnes n (3 + 4 * j) h = some (bitsF (fun i => eqS v i j) (v 66)) := by
  have h66 := ok.1
  obtain ⟨w1, -, -, w4⟩ := w
  unfold FX4_likeOnes
  refine lp_some (fun i => (bitsF (fun i => eqS v i j) i, o3 i)) (v 66) (fun i hi => ?_) ?_ n 0 (by omega) (by omega)
  · unfold BX4_likeOnes_4
    rw [if_neg (show ¬ h.1 1 1 ≤ o3 i by rw [w1, o3_le (by omega) (by omega)]; omega), if_pos ((o3_inb (by omega)).mpr (by omega))]
    simp only [o3_clamp (show i < 2147483648 by omega), fast5 ok (show i < 6 by omega) (show j < 6 by omega) ((w4 i (by omega)).2 hi) ((w4 j (by omega)).2 hj)]
    rw [n1, o3_add]
    show _ = some (Sum.inl ((bif eqS v i j then bitsF (fun i => eqS v i j) i ||| ((1 : Int32) <<< (o3 i &&& 31)) else bitsF (fun i => eqS v i j) i), o3 (i + 1)))
    cases eqS v i j <;> rfl
  · unfold BX4_likeOnes_4
    rw [if_pos (show h.1 1 1 ≤ o3 (v 66) by rw [w1]; exact Int32.le_refl _)]
theorem bitsF_congr {f g : Nat → Bool} : ∀ P : Nat, (∀ k, k < P → f k = g k) → bitsF f P = bitsF g P
  | 0, _ => rfl
  | P + 1, e => by rw [bitsF, bitsF, e P (by omega), bitsF_congr P (fun k hk => e k (by omega))]
def anyF (f : Nat → Bool) : Nat → Bool
  | 0 => false
  | i + 1 => anyF f i || f i
theorem anyF_congr {f g : Nat → Bool} : ∀ P : Nat, (∀ k, k < P → f k = g k) → anyF f P = anyF g P
  | 0, _ => rfl
  | P + 1, e => by rw [anyF, anyF, e P (by omega), anyF_congr P (fun k hk => e k (by omega))]
set_option maxRecDepth 100000 in
set_option maxHeartbeats 4000000 in
theorem bits_low : ∀ b0 b1 b2 b3 b4 b5 : Bool, ∀ P : Fin 7, ∀ i : Fin 6, i.1 < P.1 → decide ((bitsF (fun k => [b0, b1, b2, b3, b4, b5].getD k false) P.1 &&& ((1 : Int32) <<< (o3 i.1 &&& 31)) - 1) = 0) = !anyF (fun k => [b0, b1, b2, b3, b4, b5].getD k false) i.1 := by decide +kernel
theorem bits_low' {f : Nat → Bool} {P i : Nat} (hP : P ≤ 6) (hi : i < P) : (bitsF f P &&& ((1 : Int32) <<< (o3 i &&& 31)) - 1) = 0 ↔ anyF f i = false := by
  have e : ∀ k, k < 6 → f k = [f 0, f 1, f 2, f 3, f 4, f 5].getD k false := fun k hk => by
    rcases (show k = 0 ∨ k = 1 ∨ k = 2 ∨ k = 3 ∨ k = 4 ∨ k = 5 by omega) with rfl | rfl | rfl | rfl | rfl | rfl <;> rfl
  have key : decide ((bitsF (fun k => [f 0, f 1, f 2, f 3, f 4, f 5].getD k false) P &&& ((1 : Int32) <<< (o3 i &&& 31)) - 1) = 0) = !anyF (fun k => [f 0, f 1, f 2, f 3, f 4, f 5].getD k false) i := bits_low (f 0) (f 1) (f 2) (f 3) (f 4) (f 5) ⟨P, by omega⟩ ⟨i, by omega⟩ hi
  rw [bitsF_congr P (fun k hk => e k (by omega)), anyF_congr i (fun k hk => e k (by omega))]
  generalize anyF (fun k => [f 0, f 1, f 2, f 3, f 4, f 5].getD k false) i = b at key ⊢
  cases b with
  | false => exact ⟨fun _ => rfl, fun _ => of_decide_eq_true key⟩
  | true => exact ⟨fun q => absurd q (of_decide_eq_false key), fun q => by cases q⟩
theorem alike_in {n : Nat} {h : aw_H} {v : St} {p : Nat} {a1 s g : Int32} {r : (Int32 × Int32 × Int32) ⊕ Int32} (md : Mod h v) (ok : Ok v) (hp : p < v 66) (hn : 300 ≤ n) (he : BX6_alike_41 n a1 h (s, g, o3 p) (bif anyF (fun k => eqS v p k) p then 0 else 1, o3 p) = some (Sum.inr r)) : aw_loop (BX6_alike_41 n a1 h (s, g, o3 p)) n (1, 0) = some r := by
  have h66 := ok.1
  refine lp_some (fun q => (bif anyF (fun k => eqS v p k) q then 0 else 1, o3 q)) p (fun q hq => ?_) he n 0 (by omega) (by omega)
  unfold BX6_alike_41
  rw [if_neg (show ¬ o3 p ≤ o3 q by rw [o3_le (by omega) (by omega)]; omega)]
  simp only [alike6 md ok hp (show q < v 66 by omega) hn, Option.bind_some]
  rw [n1, o3_add]
  show _ = some (Sum.inl ((bif anyF (fun k => eqS v p k) q || eqS v p q then (0 : Int32) else o3 1), o3 (q + 1)))
  cases anyF (fun k => eqS v p k) q with
  | true => rfl
  | false => cases eqS v p q <;> rfl
theorem c_alike {n : Nat} {h : aw_H} (k : Rel h) (hn : 300 ≤ n) (a1 : Int32) : Sv (FX5_alike n a1 h) (FX6_alike n a1 h) := by
  obtain ⟨v, ok, w, md⟩ := k.1
  have h66 := ok.1
  have e66 := md 66 (by omega)
  have w1 := w.1
  by_cases hm : a1 = -1
  · have key : ∃ q q', FX4_groups n h = some q ∧ aw_loop (BX6_alike_23 n a1 h) n (0, 0, 0) = some q' ∧ q = q' := by
      refine lp_two (fun s s' => s'.1 = 0 ∧ s.1 = s'.2.1 ∧ s.2 = s'.2.2 ∧ ∃ i, s.2 = o3 i ∧ i ≤ v 66) (fun s => 10 - s.2.toNatClampNeg) ?_ n n _ _ ⟨rfl, rfl, rfl, 0, rfl, by omega⟩ (by show 10 - _ < n; omega) (by show 10 - _ < n; omega)
      rintro ⟨g, i'⟩ ⟨s0, g', i''⟩ ⟨r0, r1, r2, i, r3, hl⟩
      have r0 : s0 = 0 := r0
      have r1 : g = g' := r1
      have r2 : i' = i'' := r2
      have r3 : i' = o3 i := r3
      subst r0 r1 r2 r3
      by_cases e : i = v 66
      · refine Or.inr ⟨g, g, ?_, ?_, rfl⟩
        · unfold BX4_groups_4
          rw [if_pos (show h.1 1 1 ≤ o3 i by rw [w1, e]; exact Int32.le_refl _)]
        · unfold BX6_alike_23
          rw [if_pos (show h.1 72 66 ≤ o3 i by rw [e66, e]; exact Int32.le_refl _), if_pos hm]
      · have lk := like5 (n := n) (j := i) w ok (by omega) hn
        have bl := bits_low' (f := fun q => eqS v q i) (P := v 66) (i := i) h66 (by omega)
        have ea : anyF (fun q => eqS v q i) i = anyF (fun q => eqS v i q) i := anyF_congr i (fun q _ => eqS_comm)
        rw [ea] at bl
        refine Or.inl ⟨(bif anyF (fun q => eqS v i q) i then g else g + 1, o3 (i + 1)), (0, bif anyF (fun q => eqS v i q) i then g else g + 1, o3 (i + 1)), ?_, ?_, ⟨rfl, rfl, rfl, i + 1, rfl, by omega⟩, ?_⟩
        · unfold BX4_groups_4
          rw [if_neg (show ¬ h.1 1 1 ≤ o3 i by rw [w1, o3_le (by omega) (by omega)]; omega), if_pos ((o3_inb (by omega)).mpr (by omega))]
          simp only [o3_clamp (show i < 2147483648 by omega), lk, Option.bind_some]
          rw [← o3_add]
          cases hA : anyF (fun q => eqS v i q) i with
          | true =>
            rw [if_neg (fun q => by have := bl.mp q; rw [hA] at this; cases this)]; rfl
          | false =>
            rw [if_pos (bl.mpr hA)]; rfl
        · unfold BX6_alike_23
          rw [if_neg (show ¬ h.1 72 66 ≤ o3 i by rw [e66, o3_le (by omega) (by omega)]; omega)]
          refine alike_in md ok (by omega) hn ?_
          unfold BX6_alike_41
          rw [if_pos (show o3 i ≤ o3 i from Int32.le_refl _), ← o3_add]
          cases anyF (fun q => eqS v i q) i with
          | true =>
            simp only [Bool.cond_true, hm, if_true, Int32.add_zero]
            try rfl
          | false =>
            simp only [Bool.cond_false, one_ne, if_false, hm, if_true]
            try rfl
        · show 10 - (o3 (i + 1)).toNatClampNeg < 10 - (o3 i).toNatClampNeg
          rw [o3_clamp (by omega), o3_clamp (by omega)]; omega
    obtain ⟨q, q', p1, p2, rfl⟩ := key
    refine ⟨q, ?_, ?_⟩
    · unfold FX5_alike
      rw [if_pos hm, p1]; rfl
    · unfold FX6_alike
      rw [if_pos hm, p2]
  · rcases part_g (h := h) (h' := h) a1 w.1 e66 ok.1 with ⟨f1, f2⟩ | ⟨p, b1, b2, b3, b4⟩
    · exact ⟨-2, by simp only [FX5_alike, hm, if_false, f1, Option.bind_some, aw_on_none], by simp only [FX6_alike, hm, if_false, f2, if_true]⟩
    have hp : p < 6 := by omega
    subst b1
    have lk := like5 (n := n) (j := p) w ok b2 hn
    refine ⟨bitsF (fun i => eqS v i p) (v 66), ?_, ?_⟩
    · simp only [FX5_alike, hm, if_false, b3, Option.bind_some, aw_on_some, isW_of hp, if_true, lk]
    · unfold FX6_alike
      rw [if_neg hm, if_neg b4]
      have key : ∃ q, aw_loop (BX6_alike_23 n (o3 p) h) n (0, 0, 0) = some q ∧ q = bitsF (fun i => eqS v i p) (v 66) := by
        refine lp_wp (fun s => ∃ i, s.1 = bitsF (fun i => eqS v i p) i ∧ s.2.2 = o3 i ∧ i ≤ v 66) (fun s => 10 - s.2.2.toNatClampNeg) ?_ n _ ⟨0, rfl, rfl, by omega⟩ (by show 10 - _ < n; omega)
        rintro ⟨s0, g, i'⟩ ⟨i, r1, r2, hl⟩
        have r1 : s0 = bitsF (fun i => eqS v i p) i := r1
        have r2 : i' = o3 i := r2
        subst r1 r2
        by_cases e : i = v 66
        · refine Or.inr ⟨bitsF (fun i => eqS v i p) i, ?_, by rw [e]⟩
          unfold BX6_alike_23
          rw [if_pos (show h.1 72 66 ≤ o3 i by rw [e66, e]; exact Int32.le_refl _), if_neg hm]
        · refine Or.inl ⟨(bitsF (fun i => eqS v i p) (i + 1), bif anyF (fun q => eqS v i q) i then g else g + 1, o3 (i + 1)), ?_, ⟨i + 1, rfl, rfl, by omega⟩, ?_⟩
          · unfold BX6_alike_23
            rw [if_neg (show ¬ h.1 72 66 ≤ o3 i by rw [e66, o3_le (by omega) (by omega)]; omega)]
            refine alike_in md ok (by omega) hn ?_
            unfold BX6_alike_41
            rw [if_pos (show o3 i ≤ o3 i from Int32.le_refl _), ← o3_add]
            simp only [alike6 md ok b2 (show i < v 66 by omega) hn, Option.bind_some]
            show _ = some (Sum.inr (Sum.inl ((bif eqS v i p then bitsF (fun i => eqS v i p) i ||| ((1 : Int32) <<< (o3 i &&& 31)) else bitsF (fun i => eqS v i p) i), (bif anyF (fun q => eqS v i q) i then g else g + 1), o3 i + o3 1)))
            have ec : eqS v p i = eqS v i p := eqS_comm
            rw [ec, if_neg hm, if_neg hm]
            cases anyF (fun q => eqS v i q) i with
            | true =>
              cases eqS v i p with
              | true =>
                simp only [Bool.cond_true, one_ne, if_true, if_false, Int32.add_zero]
                try rfl
              | false =>
                simp only [Bool.cond_true, Bool.cond_false, if_true, Int32.add_zero, Int32.or_zero]
                try rfl
            | false =>
              cases eqS v i p with
              | true =>
                simp only [Bool.cond_true, Bool.cond_false, one_ne, if_false]
                try rfl
              | false =>
                simp only [Bool.cond_false, one_ne, if_true, if_false, Int32.or_zero]
                try rfl
          · show 10 - (o3 (i + 1)).toNatClampNeg < 10 - (o3 i).toNatClampNeg
            rw [o3_clamp (by omega), o3_clamp (by omega)]; omega
      obtain ⟨q, p1, p2⟩ := key
      rw [← p2]
      exact p1
/-! nearest -/
theorem near_eq : BX5_nearest_49 = BX6_nearest_51 := by
  funext a1 a2 u37 u49
  unfold BX5_nearest_49 BX6_nearest_51
  rw [Int64.mul_comm a1.toInt64 u49.2.2.2.toInt64]
  rfl
theorem near_step {a1 a2 : Int32} {u : Int32 × Int32 × Int64 × Int32} {x y : Int32} {d : Int64} {b : Nat} (hb : b ≤ 200) : ∃ (x' y' : Int32) (d' : Int64), BX6_nearest_51 a1 a2 u (x, y, d, o3 b) = some (Sum.inl (x', y', d', o3 (b + 1))) := by
  unfold BX6_nearest_51
  rw [if_neg (show ¬ (200 : Int32) < o3 b by rw [n200, o3_lt (by omega) (by omega)]; omega), ← o3_add]
  simp only
  split
  · split
    · exact ⟨_, _, _, rfl⟩
    · split
      · exact ⟨_, _, _, rfl⟩
      · exact ⟨_, _, _, rfl⟩
  · exact ⟨_, _, _, rfl⟩
theorem near_in {n : Nat} {a1 a2 : Int32} {u : Int32 × Int32 × Int64 × Int32} (hn : 300 ≤ n) : ∃ q, aw_loop (BX6_nearest_51 a1 a2 u) n (u.1, u.2.1, u.2.2.1, 8) = some q ∧ ∃ (x' y' : Int32) (d' : Int64), q = Sum.inl (x', y', d', u.2.2.2 + 1) := by
  refine lp_wp (fun s => ∃ b, s.2.2.2 = o3 b ∧ b ≤ 201) (fun s => 210 - s.2.2.2.toNatClampNeg) ?_ n _ ⟨8, rfl, by omega⟩ (by show 210 - _ < n; omega)
  rintro ⟨x, y, d, b'⟩ ⟨b, r, hl⟩
  have r : b' = o3 b := r
  subst r
  by_cases e : b ≤ 200
  · obtain ⟨x', y', d', hs⟩ := near_step (a1 := a1) (a2 := a2) (u := u) (x := x) (y := y) (d := d) e
    refine Or.inl ⟨_, hs, ⟨b + 1, rfl, by omega⟩, ?_⟩
    show 210 - (o3 (b + 1)).toNatClampNeg < 210 - (o3 b).toNatClampNeg
    rw [o3_clamp (by omega), o3_clamp (by omega)]; omega
  · refine Or.inr ⟨_, ?_, x, y, d, rfl⟩
    unfold BX6_nearest_51
    rw [if_pos (show (200 : Int32) < o3 b by rw [n200, o3_lt (by omega) (by omega)]; omega)]
theorem c_nearest {n : Nat} (hn : 300 ≤ n) (a1 a2 : Int32) : Sv (FX5_nearest n a1 a2) (FX6_nearest n a1 a2) := by
  rcases rng a1 1 9999 1 9999 1 9999 rfl rfl rfl rfl (by omega) (by omega) with ⟨f1, f2, -⟩ | ⟨x, c1, c2, c3, c4, c5⟩
  · exact ⟨-2, by simp only [FX5_nearest, f1, if_true], by simp only [FX6_nearest, f2, if_true]⟩
  rcases rng a2 1 9999 1 9999 1 9999 rfl rfl rfl rfl (by omega) (by omega) with ⟨f1, f2, -⟩ | ⟨y, d1, d2, d3, d4, d5⟩
  · exact ⟨-2, by simp only [FX5_nearest, c4, f1, if_true, if_false], by simp only [FX6_nearest, c5, f2, if_true, if_false]⟩
  have eo : BX5_nearest_37 n a1 a2 = BX6_nearest_39 n a1 a2 := by
    funext u
    unfold BX5_nearest_37 BX6_nearest_39
    rw [near_eq]
  have key : ∃ q, aw_loop (BX6_nearest_39 n a1 a2) n (0, 0, 0, 8) = some q ∧ True := by
    refine lp_wp (fun s => ∃ b, s.2.2.2 = o3 b ∧ b ≤ 201) (fun s => 210 - s.2.2.2.toNatClampNeg) ?_ n _ ⟨8, rfl, by omega⟩ (by show 210 - _ < n; omega)
    rintro ⟨x, y, d, b'⟩ ⟨b, r, hl⟩
    have r : b' = o3 b := r
    subst r
    by_cases e : b ≤ 200
    · obtain ⟨q, hq, x', y', d', rfl⟩ := near_in (n := n) (a1 := a1) (a2 := a2) (u := (x, y, d, o3 b)) hn
      refine Or.inl ⟨(x', y', d', o3 (b + 1)), ?_, ⟨b + 1, rfl, by omega⟩, ?_⟩
      · unfold BX6_nearest_39
        rw [if_neg (show ¬ (200 : Int32) < o3 b by rw [n200, o3_lt (by omega) (by omega)]; omega), ← o3_add]
        exact hq
      · show 210 - (o3 (b + 1)).toNatClampNeg < 210 - (o3 b).toNatClampNeg
        rw [o3_clamp (by omega), o3_clamp (by omega)]; omega
    · refine Or.inr ⟨1000 * x + y, ?_, trivial⟩
      unfold BX6_nearest_39
      rw [if_pos (show (200 : Int32) < o3 b by rw [n200, o3_lt (by omega) (by omega)]; omega)]
  obtain ⟨q, hq, -⟩ := key
  refine ⟨q, ?_, ?_⟩
  · unfold FX5_nearest
    rw [if_neg c4, if_neg d4, eo]; exact hq
  · unfold FX6_nearest
    rw [if_neg c5, if_neg d5]; exact hq

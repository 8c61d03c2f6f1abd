/-! phases by lot -/
def phI (z : Int32) : Int32 := (z.toUInt32 >>> ((9 : Int32).toUInt32 &&& Int32.toUInt32 31)).toInt32 - (z.toUInt32 >>> ((9 : Int32).toUInt32 &&& Int32.toUInt32 31)).toInt32 / 1024 * 1024
def phn (z : Int32) : Nat := z.toUInt32.toNat / 512 % 1024
theorem phn_le (z : Int32) : phn z ≤ 1023 := by
  unfold phn
  omega
theorem phn_eq (z : Int32) : phI z = o3 (phn z) := by
  have e9 : ((9 : Int32).toUInt32 &&& Int32.toUInt32 31).toNat % 32 = 9 := by decide
  obtain ⟨x, hx⟩ : ∃ x : UInt32, x = z.toUInt32 >>> ((9 : Int32).toUInt32 &&& Int32.toUInt32 31) := ⟨_, rfl⟩
  have hu := z.toUInt32.toNat_lt
  have hb : x.toNat = z.toUInt32.toNat / 512 := by
    rw [hx, UInt32.toNat_shiftRight, e9, Nat.shiftRight_eq_div_pow]
  have hs : x.toInt32 = o3 x.toNat := by
    have h1 : (UInt32.ofNat x.toNat).toInt32 = Int32.ofNat x.toNat := UInt32.toInt32_ofNat'
    rw [UInt32.ofNat_toNat] at h1
    exact h1
  unfold phI phn
  rw [← hx, hs, hb]
  exact o3_mod (b := 1024) (by omega) (by omega)
def zs (s : Int32) : Nat → Int32
  | 0 => s
  | k + 1 => zs s k * 1103515245 + 12345
def lotV (v : St) (s : Int32) : Nat → St
  | 0 => v
  | k + 1 => upv (lotV v s k) (11 * k + 3) (phn (zs s (k + 1)))
theorem lot_ne {v : St} {s : Int32} {j : Nat} : ∀ i : Nat, (∀ k, k < i → j ≠ 11 * k + 3) → lotV v s i j = v j
  | 0, _ => rfl
  | i + 1, h => by rw [lotV, upv_ne (h i (by omega)), lot_ne i (fun k hk => h k (by omega))]
theorem lot_at {v : St} {s : Int32} {k : Nat} : ∀ i : Nat, k < i → lotV v s i (11 * k + 3) = phn (zs s (k + 1))
  | 0, h => absurd h (by omega)
  | i + 1, h => by
    by_cases e : k = i
    · subst e; rw [lotV, upv_eq]
    · rw [lotV, upv_ne (by omega), lot_at i (by omega)]
theorem lot_ok {v : St} {s : Int32} (ok : Ok v) : ∀ i : Nat, i ≤ 6 → Ok (lotV v s i)
  | 0, _ => ok
  | i + 1, h => by
    rw [lotV]
    exact ok_change (t := 3) (lot_ok ok i (by omega)) (by omega) (by omega) (phn_le _)
def lsum (v : St) (s : Int32) (t : Nat) : Nat → Int64
  | 0 => 0
  | k + 1 => lsum v s t k + hbV (upv v (11 * k + 3) (phn (zs s (k + 1)))) k t
theorem lsum_eq {v : St} {s : Int32} {t : Nat} (ok : Ok v) {P : Nat} (hP : P ≤ 6) : ∀ k : Nat, k ≤ P → sumV (lotV v s P) t k = lsum v s t k
  | 0, _ => rfl
  | k + 1, h => by
    rw [sumV, lsum, lsum_eq ok hP k (by omega)]
    congr 1
    have okk := ok_change (t := 3) (p := k) (x := phn (zs s (k + 1))) ok (by omega) (by omega) (phn_le _)
    refine hbV_congr (okk.2.2.2 k (by omega)).2.2.2.2.1 ?_ (fun i hi => ?_)
    · rw [lot_ne _ (fun k hk => by omega), upv_ne (by omega)]
    · by_cases e : i = 3
      · subst e
        rw [lot_at P (by omega), upv_eq]
      · rw [upv_ne (by omega), lot_ne _ (fun k hk => by omega)]
def lotL (v : St) (s : Int32) (t : Nat) : Int64 := lsum v s t (v 66)
theorem lot_lv {v : St} {s : Int32} {t : Nat} (ok : Ok v) : lvV (lotV v s (v 66)) t = lotL v s t := by
  unfold lvV lotL
  rw [lot_ne (j := 66) _ (fun k hk => by omega)]
  exact lsum_eq ok ok.1 _ (Nat.le_refl _)
theorem byLot5 {n : Nat} {h : aw_H} {v : St} {s : Int32} {t : Nat} (w : Wks h 1 3 v) (ok : Ok v) (ht : t ≤ 200000) (hn : 300 ≤ n) : ∃ H, FX5_levelByLot n s (o3 t) h = some (lotL v s t, H) ∧ Same (fun q => 57 ≤ q ∧ q < 61) h H := by
  have h66 := ok.1
  have key : ∃ q, aw_loop (BX5_levelByLot_8 (o3 t)) n (s, 0, 0, h) = some q ∧ (q.1 = lotL v s t ∧ Same (fun q => 57 ≤ q ∧ q < 61) h q.2) := by
    refine lp_wp (fun u => ∃ i, i ≤ v 66 ∧ u.1 = zs s i ∧ u.2.1 = lsum v s t i ∧ u.2.2.1 = o3 i ∧ Same (fun q => 57 ≤ q ∧ q < 61) h u.2.2.2) (fun u => 10 - u.2.2.1.toNatClampNeg) ?_ n _ ⟨0, by omega, rfl, rfl, rfl, Same.rfl⟩ (by show 10 - _ < n; omega)
    rintro ⟨z, l, i', u⟩ ⟨i, hi, r1, r2, r3, r4⟩
    replace r1 : z = zs s i := r1
    replace r2 : l = lsum v s t i := r2
    replace r3 : i' = o3 i := r3
    replace r4 : Same (fun q => 57 ≤ q ∧ q < 61) h u := r4
    subst r1 r2 r3
    have wu : Wks u 1 3 v := w.fr r4 (by omega) (fun q q1 q2 => by omega)
    by_cases e : i = v 66
    · refine Or.inr ⟨(lsum v s t i, u), ?_, by rw [e]; rfl, r4⟩
      unfold BX5_levelByLot_8
      rw [if_pos (show u.1 1 1 ≤ o3 i by rw [wu.1, e]; exact Int32.le_refl _)]
    · obtain ⟨wh, sp⟩ := wu.2.2.2 i (by omega)
      obtain ⟨H, g1, g2, g3, g4⟩ := become_w (a := 57) (by omega) wh
      have g4 := g4 (sp (by omega))
      have g3' : Whl H 57 (upv v (11 * i + 3) (v (11 * i + 3))) i := by rw [upv_self]; exact g3
      have wt := think_set (x := phn (zs s (i + 1))) (t := 3) (by omega) g3'
      have okk := ok_change (t := 3) (p := i) (x := phn (zs s (i + 1))) ok (by omega) (by omega) (phn_le _)
      have st : Spd (aw_sI H 58 3 (o3 (phn (zs s (i + 1))))) 57 (upv v (11 * i + 3) (phn (zs s (i + 1)))) i := (g4.fr (Same.sI (S := fun q => q = 58) rfl) (by omega)).congr (ok.2.2.2 i (by omega)).2.2.2.2.1 (upv_ne (by omega)) (fun k h1 h2 => upv_ne (by omega))
      have sw := swing5 (t := t) wt st (okk.2.2.2 i (by omega)) okk.2.1.2 ht
      refine Or.inl ⟨(zs s (i + 1), lsum v s t (i + 1), o3 (i + 1), aw_sI H 58 3 (o3 (phn (zs s (i + 1))))), ?_, ⟨i + 1, by omega, rfl, rfl, rfl, (r4.trans (g2.mono (fun q hq => by omega))).trans (Same.sI (by omega))⟩, ?_⟩
      · unfold BX5_levelByLot_8
        rw [if_neg (show ¬ u.1 1 1 ≤ o3 i by rw [wu.1, o3_le (by omega) (by omega)]; omega), if_pos ((o3_inb (by omega)).mpr (by omega))]
        simp only [o3_clamp (show i < 2147483648 by omega), g1, Option.bind_some]
        show (Option.bind (FX3_swing 57 (o3 t) (aw_sI H 58 3 (phI (zs s (i + 1))))) (fun q4 => some (Sum.inl (zs s (i + 1), (lsum v s t i + q4), (o3 i + 1), aw_sI H 58 3 (phI (zs s (i + 1))))))) = _
        rw [phn_eq, sw, n1, o3_add]
        rfl
      · show 10 - (o3 (i + 1)).toNatClampNeg < 10 - (o3 i).toNatClampNeg
        rw [o3_clamp (by omega), o3_clamp (by omega)]; omega
  obtain ⟨q, q1, q2, q3⟩ := key
  exact ⟨q.2, by rw [← q2]; exact q1, q3⟩
theorem byLot6 {n : Nat} {h : aw_H} {v : St} {s : Int32} {t : Nat} (md : Mod h v) (ok : Ok v) (ht : t ≤ 200000) (hn : 300 ≤ n) : ∃ H, FX6_byLot n s (o3 t) h = some (lotL v s t, H) ∧ Same (fun q => q = 72 ∨ q = 78) h H ∧ Mod H v := by
  have h66 := ok.1
  have key : ∃ q, aw_loop (BX6_byLot_5 n (o3 t)) n (s, 0, h) = some q ∧ (q.1 = lotL v s t ∧ Same (fun q => q = 72 ∨ q = 78) h q.2 ∧ Mod q.2 v) := by
    refine lp_wp (fun u => ∃ i, i ≤ v 66 ∧ u.1 = zs s i ∧ u.2.1 = o3 i ∧ Same (fun q => q = 72 ∨ q = 78) h u.2.2 ∧ Mod u.2.2 (lotV v s i) ∧ ∀ k, k < i → u.2.2.1 78 k = o3 (v (11 * k + 3))) (fun u => 10 - u.2.1.toNatClampNeg) ?_ n _ ⟨0, by omega, rfl, rfl, Same.rfl, md, fun k hk => absurd hk (by omega)⟩ (by show 10 - _ < n; omega)
    rintro ⟨z, i', u⟩ ⟨i, hi, r1, r2, r3, r4, r5⟩
    replace r1 : z = zs s i := r1
    replace r2 : i' = o3 i := r2
    replace r3 : Same (fun q => q = 72 ∨ q = 78) h u := r3
    replace r4 : Mod u (lotV v s i) := r4
    replace r5 : ∀ k, k < i → u.1 78 k = o3 (v (11 * k + 3)) := r5
    subst r1 r2
    have e66 : u.1 72 66 = o3 (v 66) := by rw [r4 66 (by omega), lot_ne _ (fun k hk => by omega)]
    by_cases e : i = v 66
    · have oki : Ok (lotV v s i) := lot_ok ok i (by omega)
      have s6 := sum6 (n := n) (t := t) r4 oki ht hn
      rw [e, lot_lv ok] at s6
      have key2 : ∃ q, aw_loop (BX6_byLot_71 (lotL v s t)) n (0, u) = some q ∧ ∃ H, q = Sum.inr (lotL v s t, H) ∧ Same (fun q => q = 72 ∨ q = 78) h H ∧ Mod H v := by
        refine lp_wp (fun x => ∃ j, j ≤ v 66 ∧ x.1 = o3 j ∧ Same (fun q => q = 72 ∨ q = 78) h x.2 ∧ (∀ k, k < v 66 → x.2.1 78 k = o3 (v (11 * k + 3))) ∧ ∃ w : St, Mod x.2 w ∧ ∀ b, (∀ k, j ≤ k → k < v 66 → b ≠ 11 * k + 3) → w b = v b) (fun x => 10 - x.1.toNatClampNeg) ?_ n _ ⟨0, by omega, rfl, r3, by rw [← e]; exact r5, _, r4, fun b hb => lot_ne _ (fun k hk => hb k (by omega) (by omega))⟩ (by show 10 - _ < n; omega)
        rintro ⟨j', x⟩ ⟨j, hj, p1, p2, p3, w, p4, p5⟩
        replace p1 : j' = o3 j := p1
        replace p2 : Same (fun q => q = 72 ∨ q = 78) h x := p2
        replace p3 : ∀ k, k < v 66 → x.1 78 k = o3 (v (11 * k + 3)) := p3
        replace p4 : Mod x w := p4
        subst p1
        have x66 : x.1 72 66 = o3 (v 66) := by rw [p4 66 (by omega), p5 66 (fun k _ _ => by omega)]
        by_cases ej : j = v 66
        · refine Or.inr ⟨_, ?_, x, rfl, p2, ?_⟩
          · unfold BX6_byLot_71
            rw [if_pos (show x.1 72 66 ≤ o3 j by rw [x66, ej]; exact Int32.le_refl _)]
          · have : w = v := funext fun b => p5 b (fun k h1 h2 => by omega)
            rw [← this]; exact p4
        · refine Or.inl ⟨(o3 (j + 1), aw_sI x 72 (11 * j + 3) (o3 (v (11 * j + 3)))), ?_, ⟨j + 1, by omega, rfl, p2.trans (Same.sI (Or.inl rfl)), fun k hk => ?_, _, p4.upv _ _, fun b hb => ?_⟩, ?_⟩
          · unfold BX6_byLot_71
            rw [if_neg (show ¬ x.1 72 66 ≤ o3 j by rw [x66, o3_le (by omega) (by omega)]; omega), if_pos ((o3_inb (by omega)).mpr (by omega))]
            simp only [o3_clamp (show j < 2147483648 by omega), p3 j (by omega), lays63 (show j < 6 by omega), Option.bind_some]
            rw [n1, o3_add]
          · show (aw_sI x 72 (11 * j + 3) (o3 (v (11 * j + 3)))).1 78 k = _
            rw [sI_ne (by omega)]; exact p3 k hk
          · by_cases eb : b = 11 * j + 3
            · rw [eb, upv_eq]
            · rw [upv_ne eb]
              refine p5 b (fun k h1 h2 => ?_)
              by_cases ek : k = j
              · rw [ek]; exact eb
              · exact hb k (by omega) h2
          · show 10 - (o3 (j + 1)).toNatClampNeg < 10 - (o3 j).toNatClampNeg
            rw [o3_clamp (by omega), o3_clamp (by omega)]; omega
      obtain ⟨q, q1, H, q2, q3, q4⟩ := key2
      refine Or.inr ⟨(lotL v s t, H), ?_, rfl, q3, q4⟩
      unfold BX6_byLot_5
      rw [if_pos (show u.1 72 66 ≤ o3 i by rw [e66, e]; exact Int32.le_refl _), s6]
      simp only [Option.bind_some]
      rw [q1, q2]
    · have a3 : FX6_at (o3 i) 3 u = some (o3 (v (11 * i + 3))) := by
        have := at6 (k := 3) r4 (show i < 6 by omega) (by omega)
        rw [lot_ne _ (fun k hk => by omega)] at this
        exact this
      have ly : ∀ (x : Int32) (H : aw_H), FX6_lays (o3 i) 3 x H = some (aw_sI H 72 (11 * i + 3) x) := fun x H => lays63 (by omega)
      have s78 : Same (fun q => q = 78) u (aw_sI u 78 i (o3 (v (11 * i + 3)))) := Same.sI (S := fun q => q = 78) rfl
      refine Or.inl ⟨(zs s (i + 1), o3 (i + 1), aw_sI (aw_sI u 78 i (o3 (v (11 * i + 3)))) 72 (11 * i + 3) (o3 (phn (zs s (i + 1))))), ?_, ⟨i + 1, by omega, rfl, rfl, (r3.trans (s78.mono (fun q hq => Or.inr hq))).trans (Same.sI (Or.inl rfl)), (r4.fr s78 (by omega)).upv _ _, fun k hk => ?_⟩, ?_⟩
      · unfold BX6_byLot_5
        rw [if_neg (show ¬ u.1 72 66 ≤ o3 i by rw [e66, o3_le (by omega) (by omega)]; omega), a3]
        simp only [Option.bind_some]
        rw [if_pos ((o3_inb (by omega)).mpr (by omega)), o3_clamp (show i < 2147483648 by omega), ly]
        simp only [Option.bind_some]
        show some (Sum.inl (zs s (i + 1), o3 i + 1, aw_sI (aw_sI u 78 i (o3 (v (11 * i + 3)))) 72 (11 * i + 3) (phI (zs s (i + 1))))) = _
        rw [phn_eq, n1, o3_add]
      · show (aw_sI (aw_sI u 78 i (o3 (v (11 * i + 3)))) 72 (11 * i + 3) _).1 78 k = _
        rw [sI_ne (by omega)]
        by_cases ek : k = i
        · rw [ek, sI_eq]
        · rw [sI_nk ek]; exact r5 k (by omega)
      · show 10 - (o3 (i + 1)).toNatClampNeg < 10 - (o3 i).toNatClampNeg
        rw [o3_clamp (by omega), o3_clamp (by omega)]; omega
  obtain ⟨q, q1, q2, q3, q4⟩ := key
  exact ⟨q.2, by rw [← q2]; exact q1, q3, q4⟩
/-- as Sim, of a long -/
def SimL (o5 : Option (Int64 × aw_H)) (f6 : aw_H → Option (Int64 × aw_H)) : Prop := ∃ (x : Int64) (h1 h2 : aw_H), o5 = some (x, h1) ∧ f6 h1 = some (x, h2) ∧ Rel h2
theorem lot_fin {h h1 h2 : aw_H} {v : St} (k : Rel h) (ok : Ok v) (w : Wks h 1 3 v) (s1 : Same (fun q => 57 ≤ q ∧ q < 61) h h1) (s2 : Same (fun q => q = 72 ∨ q = 78) h1 h2) (m : Mod h2 v) : Rel h2 := by
  refine k.fin ok w ((s1.mono (fun q hq => ?_)).trans (s2.mono (fun q hq => ?_))) ?_ ?_ ?_ m
  · unfold Scr; omega
  · unfold Scr; omega
  · rw [(s2 71 (by omega)).1, (s1 71 (by omega)).1]
  · rw [(s2 54 (by omega)).1, (s1 54 (by omega)).1]
  · rw [(s2 71 (by omega)).1, (s1 71 (by omega)).1]
theorem c_drawn {n : Nat} {h : aw_H} (k : Rel h) (hn : 300 ≤ n) (a1 a2 : Int32) : SimL (FX5_drawn n a1 a2 h) (FX6_drawn n a1 a2) := by
  obtain ⟨v, ok, w, md⟩ := k.1
  rcases tick_g a2 with ⟨f1, f2⟩ | ⟨t, t1, t2, t3, t4⟩
  · exact ⟨-9223372036854775808, h, h, by simp only [FX5_drawn, f1, if_true], by simp only [FX6_drawn, f2, if_true], k⟩
  subst t1
  obtain ⟨H, y1, y2⟩ := byLot5 (n := n) (s := a1) (t := t) w ok (by omega) hn
  obtain ⟨H2, y3, y4, y5⟩ := byLot6 (n := n) (s := a1) (t := t) (md.fr y2 (by omega)) ok (by omega) hn
  exact ⟨lotL v a1 t, H, H2, by simp only [FX5_drawn, t3, if_false, y1, Option.bind_some], by simp only [FX6_drawn, t4, if_false, y3, Option.bind_some], lot_fin k ok w y2 y4 y5⟩
def cnV (v : St) (s : Int32) (t : Nat) (x : Int32) : Nat → Nat
  | 0 => 0
  | k + 1 => if lg_cmp (lotL v (s + o3 k) t) x.toInt64 < 0 then cnV v s t x k else cnV v s t x k + 1
theorem cn_le {v : St} {s : Int32} {t : Nat} {x : Int32} : ∀ k : Nat, cnV v s t x k ≤ k
  | 0 => Nat.le_refl _
  | k + 1 => by
    have := cn_le (v := v) (s := s) (t := t) (x := x) k
    rw [cnV]
    split <;> omega
theorem c_chance {n : Nat} {h : aw_H} (k : Rel h) (hn : 300 ≤ n) (a1 a2 a3 a4 a5 : Int32) : Sim (FX5_chance n a1 a2 a3 a4 a5 h) (FX6_chance n a1 a2 a3 a4 a5) := by
  obtain ⟨v, ok, w, md⟩ := k.1
  rcases rng a2 1 20 1 20 1 20 rfl rfl rfl rfl (by omega) (by omega) with ⟨f1, f2, -⟩ | ⟨m, c1, c2, c3, c4, c5⟩
  · exact ⟨-2, h, h, by simp only [FX5_chance, f1, if_true], by simp only [FX6_chance, f2, if_true], k⟩
  rcases tick_g a3 with ⟨f1, f2⟩ | ⟨t, t1, t2, t3, t4⟩
  · exact ⟨-2, h, h, by simp only [FX5_chance, c4, f1, if_true, if_false], by simp only [FX6_chance, c5, f2, if_true, if_false], k⟩
  rcases line_g a5 with ⟨f1, f2⟩ | ⟨x, l1, l2, l3, l4⟩
  · exact ⟨-2, h, h, by simp only [FX5_chance, c4, t3, f1, if_true, if_false], by simp only [FX6_chance, c5, t4, f2, if_true, if_false], k⟩
  subst c1 t1
  obtain ⟨C, hC⟩ : ∃ C, C = cnV v a1 t a4 m := ⟨_, rfl⟩
  have bC : C ≤ m := by rw [hC]; exact cn_le _
  obtain ⟨A, hA⟩ : ∃ A : Int32, A = (o6 (if a5 = 0 then C / Nat.gcd C m else m / Nat.gcd C m)).toInt32 := ⟨_, rfl⟩
  have L5 := low5n (n := n) (a := C) (y := m) (l := a5) (by omega) (by omega) (by omega) (by omega)
  have L6 := low6n (n := n) (a := C) (y := m) (l := a5) (by omega) (by omega) (by omega) (by omega)
  have k5 : ∃ q, aw_loop (BX5_chance_36 n a1 (o3 m) (o3 t) a4 a5) n (0, 0, h) = some q ∧ (q.1 = A ∧ Same (fun q => 57 ≤ q ∧ q < 61) h q.2) := by
    refine lp_wp (fun u => ∃ i, i ≤ m ∧ u.1 = o3 (cnV v a1 t a4 i) ∧ u.2.1 = o3 i ∧ Same (fun q => 57 ≤ q ∧ q < 61) h u.2.2) (fun u => 30 - u.2.1.toNatClampNeg) ?_ n _ ⟨0, by omega, rfl, rfl, Same.rfl⟩ (by show 30 - _ < n; omega)
    rintro ⟨c, i', u⟩ ⟨i, hi, r1, r2, r3⟩
    replace r1 : c = o3 (cnV v a1 t a4 i) := r1
    replace r2 : i' = o3 i := r2
    replace r3 : Same (fun q => 57 ≤ q ∧ q < 61) h u := r3
    subst r1 r2
    have bi := cn_le (v := v) (s := a1) (t := t) (x := a4) i
    by_cases e : i = m
    · refine Or.inr ⟨(A, u), ?_, rfl, r3⟩
      unfold BX5_chance_36
      rw [if_pos (show o3 m ≤ o3 i by rw [e]; exact Int32.le_refl _)]
      simp only
      rw [e, ← hC, o3_i2l (by omega), o3_i2l (by omega), L5, hA]
      rfl
    · obtain ⟨H, y1, y2⟩ := byLot5 (n := n) (s := a1 + o3 i) (t := t) (w.fr r3 (by omega) (fun q q1 q2 => by omega)) ok (by omega) hn
      refine Or.inl ⟨(o3 (cnV v a1 t a4 (i + 1)), o3 (i + 1), H), ?_, ⟨i + 1, by omega, rfl, rfl, r3.trans y2⟩, ?_⟩
      · unfold BX5_chance_36
        rw [if_neg (show ¬ o3 m ≤ o3 i by rw [o3_le (by omega) (by omega)]; omega), y1]
        simp only [Option.bind_some]
        rw [cnV, n1, o3_add, o3_add]
        split <;> rfl
      · show 30 - (o3 (i + 1)).toNatClampNeg < 30 - (o3 i).toNatClampNeg
        rw [o3_clamp (by omega), o3_clamp (by omega)]; omega
  have k6 : ∀ h1, Mod h1 v → ∃ q, aw_loop (BX6_chance_36 n a1 (o3 m) (o3 t) a4 a5) n (0, 0, h1) = some q ∧ (q.1 = A ∧ Same (fun q => q = 72 ∨ q = 78) h1 q.2 ∧ Mod q.2 v) := by
    intro h1 md1
    refine lp_wp (fun u => ∃ i, i ≤ m ∧ u.1 = o3 (cnV v a1 t a4 i) ∧ u.2.1 = o3 i ∧ Same (fun q => q = 72 ∨ q = 78) h1 u.2.2 ∧ Mod u.2.2 v) (fun u => 30 - u.2.1.toNatClampNeg) ?_ n _ ⟨0, by omega, rfl, rfl, Same.rfl, md1⟩ (by show 30 - _ < n; omega)
    rintro ⟨c, i', u⟩ ⟨i, hi, r1, r2, r3, r4⟩
    replace r1 : c = o3 (cnV v a1 t a4 i) := r1
    replace r2 : i' = o3 i := r2
    replace r3 : Same (fun q => q = 72 ∨ q = 78) h1 u := r3
    replace r4 : Mod u v := r4
    subst r1 r2
    have bi := cn_le (v := v) (s := a1) (t := t) (x := a4) i
    by_cases e : i = m
    · refine Or.inr ⟨(A, u), ?_, rfl, r3, r4⟩
      unfold BX6_chance_36
      rw [if_pos (show o3 m ≤ o3 i by rw [e]; exact Int32.le_refl _)]
      simp only
      rw [e, ← hC, o3_i2l (by omega), o3_i2l (by omega), L6, hA]
      rfl
    · obtain ⟨H, y1, y2, y3⟩ := byLot6 (n := n) (s := a1 + o3 i) (t := t) r4 ok (by omega) hn
      refine Or.inl ⟨(o3 (cnV v a1 t a4 (i + 1)), o3 (i + 1), H), ?_, ⟨i + 1, by omega, rfl, rfl, r3.trans y2, y3⟩, ?_⟩
      · unfold BX6_chance_36
        rw [if_neg (show ¬ o3 m ≤ o3 i by rw [o3_le (by omega) (by omega)]; omega), y1]
        simp only [Option.bind_some]
        rw [cnV, Int32.add_zero, n1, o3_add, o3_add]
        split <;> rfl
      · show 30 - (o3 (i + 1)).toNatClampNeg < 30 - (o3 i).toNatClampNeg
        rw [o3_clamp (by omega), o3_clamp (by omega)]; omega
  obtain ⟨q, q1, q2, q3⟩ := k5
  obtain ⟨q', p1, p2, p3, p4⟩ := k6 q.2 (md.fr q3 (by omega))
  refine ⟨q.1, q.2, q'.2, ?_, ?_, lot_fin k ok w q3 p3 p4⟩
  · simp only [FX5_chance, c4, t3, l3, if_false]
    exact q1
  · simp only [FX6_chance, c5, t4, l4, if_false]
    rw [p1, q2, ← p2]
